/-! Runs of the small machine are the functions of the methods. (Written by wip/whole/gen3.py.) -/
set_option maxRecDepth 100000 in
theorem BJm_growRanks_L12_s (L : Nat) (xs : Nat → Int32) (v1 v2 : Int32) (R : List Value × Lay × Hp) (v3 : Int32) (h : Hp) (o : ((Int32 × Hp) ⊕ (Int32 × Hp))) (hH : ∀ s : Int32 × Hp, o = .inl s → Bg L xs 194 12 [(0, .ref 37), (1, .int v1), (2, .int v2), (3, .int s.1)] [] LY88 s.2 R) (hE : ∀ t : Int32 × Hp, o = .inr t → Bg L xs 194 84 [(0, .ref 37), (1, .int v1), (2, .int v2), (3, .int t.1)] [] LY88 t.2 R) (e : Jm_growRanks_L12 v1 v2 v3 h = some o) : Bg L xs 194 12 [(0, .ref 37), (1, .int v1), (2, .int v2), (3, .int v3)] [] LY88 h R := by
  refine seg_Bg (pc' := (if v3 < 256 then 19 else 84)) (lv' := [(0, .ref 37), (1, .int v1), (2, .int v2), (3, .int v3)]) (st' := []) (lay' := LY88) (h' := h) 3 rfl ?_
  refine pc_ite e (fun e => ?_) (fun e => ?_)
  · refine seg_Bg (pc' := 24) (lv' := [(0, .ref 37), (1, .int v1), (2, .int v2), (3, .int v3)]) (st' := [.int v2, .ref 45]) (lay' := LY88) (h' := h) 3 rfl ?_
    refine gd_Bg (pc' := 25) (lv' := [(0, .ref 37), (1, .int v1), (2, .int v2), (3, .int v3)]) (st' := [.int (h 45 (Int32.toNatClampNeg v2))]) (lay' := LY88) (h' := h) (g := ibB v2 512) rfl e fun e => ?_
    refine seg_Bg (pc' := (if (h 45 (Int32.toNatClampNeg v2)) = v1 then 29 else 84)) (lv' := [(0, .ref 37), (1, .int v1), (2, .int v2), (3, .int v3)]) (st' := []) (lay' := LY88) (h' := h) 2 rfl ?_
    refine pc_ite e (fun e => ?_) (fun e => ?_)
    · refine seg_Bg (pc' := 35) (lv' := [(0, .ref 37), (1, .int v1), (2, .int v2), (3, .int v3)]) (st' := [.int v2, .ref 44, .ref 37]) (lay' := LY88) (h' := h) 4 rfl ?_
      refine gd_Bg (pc' := 36) (lv' := [(0, .ref 37), (1, .int v1), (2, .int v2), (3, .int v3)]) (st' := [.int (h 44 (Int32.toNatClampNeg v2)), .ref 37]) (lay' := LY88) (h' := h) (g := ibB v2 512) rfl e fun e => ?_
      refine seg_Bg (pc' := 41) (lv' := [(0, .ref 37), (1, .int v1), (2, .int v2), (3, .int v3)]) (st' := [.int v3, .ref 43, .int (h 44 (Int32.toNatClampNeg v2)), .ref 37]) (lay' := LY88) (h' := h) 3 rfl ?_
      refine gd_Bg (pc' := 42) (lv' := [(0, .ref 37), (1, .int v1), (2, .int v2), (3, .int v3)]) (st' := [.int (h 43 (Int32.toNatClampNeg v3)), .int (h 44 (Int32.toNatClampNeg v2)), .ref 37]) (lay' := LY88) (h' := h) (g := ibB v3 256) rfl e fun e => ?_
      refine seg_Bg (pc' := 43) (lv' := [(0, .ref 37), (1, .int v1), (2, .int v2), (3, .int v3)]) (st' := [.int ((h 44 (Int32.toNatClampNeg v2)) &&& (h 43 (Int32.toNatClampNeg v3))), .ref 37]) (lay' := LY88) (h' := h) 1 rfl ?_
      refine call_Bg (a := 188) (la := [(0, .ref 37), (1, .int ((h 44 (Int32.toNatClampNeg v2)) &&& (h 43 (Int32.toNatClampNeg v3))))]) (np := 46) (lv' := [(0, .ref 37), (1, .int v1), (2, .int v2), (3, .int v3)]) (rest := []) (res := fun r => ([.int r.1], LY88, r.2)) rfl e (fun r e => BJm_placeOf L xs ((h 44 (Int32.toNatClampNeg v2)) &&& (h 43 (Int32.toNatClampNeg v3))) h r e) (fun c1 e => ?_)
      show Bg L xs 194 46 [(0, .ref 37), (1, .int v1), (2, .int v2), (3, .int v3)] [.int c1.1] LY88 c1.2 R
      refine seg_Bg (pc' := 60) (lv' := [(0, .ref 37), (1, .int v1), (2, .int v2), (3, .int v3), (4, .int c1.1)]) (st' := [.int c1.1, .ref 45, .int c1.1, .ref 45]) (lay' := LY88) (h' := c1.2) 7 rfl ?_
      refine gd_Bg (pc' := 61) (lv' := [(0, .ref 37), (1, .int v1), (2, .int v2), (3, .int v3), (4, .int c1.1)]) (st' := [.int (c1.2 45 (Int32.toNatClampNeg c1.1)), .int c1.1, .ref 45]) (lay' := LY88) (h' := c1.2) (g := ibB c1.1 512) rfl e fun e => ?_
      refine seg_Bg (pc' := (if (c1.2 45 (Int32.toNatClampNeg c1.1)) < 0 then 64 else 70)) (lv' := [(0, .ref 37), (1, .int v1), (2, .int v2), (3, .int v3), (4, .int c1.1)]) (st' := [.int c1.1, .ref 45]) (lay' := LY88) (h' := c1.2) 1 rfl ?_
      refine pc_ite e (fun e => ?_) (fun e => ?_)
      · refine seg_Bg (pc' := 77) (lv' := [(0, .ref 37), (1, .int v1), (2, .int v2), (3, .int v3), (4, .int c1.1)]) (st' := [.int (v1 + (1 : Int32)), .int c1.1, .ref 45]) (lay' := LY88) (h' := c1.2) 4 rfl ?_
        refine gp_Bg (pc' := 78) (lv' := [(0, .ref 37), (1, .int v1), (2, .int v2), (3, .int v3), (4, .int c1.1)]) (st' := []) (lay' := LY88) (x := hset c1.2 45 (Int32.toNatClampNeg c1.1) (v1 + (1 : Int32))) (g := ibB c1.1 512) rfl e fun h2 e => ?_
        refine seg_Bg (pc' := 12) (lv' := [(0, .ref 37), (1, .int v1), (2, .int v2), (3, .int (v3 + 1)), (4, .int c1.1)]) (st' := []) (lay' := LY88) (h' := h2) 2 rfl ?_
        refine kp_Bg (lv' := [(0, .ref 37), (1, .int v1), (2, .int v2), (3, .int (v3 + 1))]) rfl rfl ?_
        exact hH (v3 + 1, h2) (Option.some.inj e).symm
      · refine seg_Bg (pc' := 76) (lv' := [(0, .ref 37), (1, .int v1), (2, .int v2), (3, .int v3), (4, .int c1.1)]) (st' := [.int c1.1, .ref 45, .int c1.1, .ref 45]) (lay' := LY88) (h' := c1.2) 3 rfl ?_
        refine gd_Bg (pc' := 77) (lv' := [(0, .ref 37), (1, .int v1), (2, .int v2), (3, .int v3), (4, .int c1.1)]) (st' := [.int (c1.2 45 (Int32.toNatClampNeg c1.1)), .int c1.1, .ref 45]) (lay' := LY88) (h' := c1.2) (g := ibB c1.1 512) rfl e fun e => ?_
        refine gp_Bg (pc' := 78) (lv' := [(0, .ref 37), (1, .int v1), (2, .int v2), (3, .int v3), (4, .int c1.1)]) (st' := []) (lay' := LY88) (x := hset c1.2 45 (Int32.toNatClampNeg c1.1) (c1.2 45 (Int32.toNatClampNeg c1.1))) (g := ibB c1.1 512) rfl e fun h3 e => ?_
        refine seg_Bg (pc' := 12) (lv' := [(0, .ref 37), (1, .int v1), (2, .int v2), (3, .int (v3 + 1)), (4, .int c1.1)]) (st' := []) (lay' := LY88) (h' := h3) 2 rfl ?_
        refine kp_Bg (lv' := [(0, .ref 37), (1, .int v1), (2, .int v2), (3, .int (v3 + 1))]) rfl rfl ?_
        exact hH (v3 + 1, h3) (Option.some.inj e).symm
    · exact hE (v3, h) (Option.some.inj e).symm
  · exact hE (v3, h) (Option.some.inj e).symm
theorem BJm_growRanks_L12 (L : Nat) (xs : Nat → Int32) (v1 v2 : Int32) (R : List Value × Lay × Hp) (C : (Int32 × Hp) → Prop) (hE : ∀ t : Int32 × Hp, C t → Bg L xs 194 84 [(0, .ref 37), (1, .int v1), (2, .int v2), (3, .int t.1)] [] LY88 t.2 R) (n : Nat) (s : Int32 × Hp) (o : (Int32 × Hp)) (e : loopN n (fun s => Jm_growRanks_L12 v1 v2 s.1 s.2) s = some o) (hC : C o) : Bg L xs 194 12 [(0, .ref 37), (1, .int v1), (2, .int v2), (3, .int s.1)] [] LY88 s.2 R := by
  refine loop_B (fun s => Jm_growRanks_L12 v1 v2 s.1 s.2) (fun s : Int32 × Hp => Bg L xs 194 12 [(0, .ref 37), (1, .int v1), (2, .int v2), (3, .int s.1)] [] LY88 s.2 R) C (fun s o e => ?_) n s o e hC
  intro hK
  refine BJm_growRanks_L12_s L xs v1 v2 R s.1 s.2 o (fun s q => by subst q; exact hK) (fun t q => by subst q; exact hE t hK) e
set_option maxRecDepth 100000 in
theorem BJm_growRanks_L2_s (L : Nat) (xs : Nat → Int32) (v1 : Int32) (R : List Value × Lay × Hp) (v2 : Int32) (h : Hp) (o : ((Int32 × Hp) ⊕ (Int32 × Hp))) (hH : ∀ s : Int32 × Hp, o = .inl s → Bg L xs 194 2 [(0, .ref 37), (1, .int v1), (2, .int s.1)] [] LY88 s.2 R) (hE : ∀ t : Int32 × Hp, o = .inr t → Bg L xs 194 90 [(0, .ref 37), (1, .int v1), (2, .int t.1)] [] LY88 t.2 R) (e : Jm_growRanks_L2 v1 v2 h = some o) : Bg L xs 194 2 [(0, .ref 37), (1, .int v1), (2, .int v2)] [] LY88 h R := by
  refine seg_Bg (pc' := (if v2 < (h 37 14) then 10 else 90)) (lv' := [(0, .ref 37), (1, .int v1), (2, .int v2)]) (st' := []) (lay' := LY88) (h' := h) 4 rfl ?_
  refine pc_ite e (fun e => ?_) (fun e => ?_)
  · refine seg_Bg (pc' := 12) (lv' := [(0, .ref 37), (1, .int v1), (2, .int v2), (3, .int 0)]) (st' := []) (lay' := LY88) (h' := h) 2 rfl ?_
    obtain ⟨t4o, et4o, e⟩ := bd_s e
    refine BJm_growRanks_L12 L xs v1 v2 R (fun (t4 : Int32 × Hp) => (some (.inl (v2 + 1, t4.2))) = some o) (fun t4 e => ?_) 1000000 (0, h) _ et4o e
    refine seg_Bg (pc' := 2) (lv' := [(0, .ref 37), (1, .int v1), (2, .int (v2 + 1)), (3, .int t4.1)]) (st' := []) (lay' := LY88) (h' := t4.2) 2 rfl ?_
    refine kp_Bg (lv' := [(0, .ref 37), (1, .int v1), (2, .int (v2 + 1))]) rfl rfl ?_
    exact hH (v2 + 1, t4.2) (Option.some.inj e).symm
  · exact hE (v2, h) (Option.some.inj e).symm
theorem BJm_growRanks_L2 (L : Nat) (xs : Nat → Int32) (v1 : Int32) (R : List Value × Lay × Hp) (C : (Int32 × Hp) → Prop) (hE : ∀ t : Int32 × Hp, C t → Bg L xs 194 90 [(0, .ref 37), (1, .int v1), (2, .int t.1)] [] LY88 t.2 R) (n : Nat) (s : Int32 × Hp) (o : (Int32 × Hp)) (e : loopN n (fun s => Jm_growRanks_L2 v1 s.1 s.2) s = some o) (hC : C o) : Bg L xs 194 2 [(0, .ref 37), (1, .int v1), (2, .int s.1)] [] LY88 s.2 R := by
  refine loop_B (fun s => Jm_growRanks_L2 v1 s.1 s.2) (fun s : Int32 × Hp => Bg L xs 194 2 [(0, .ref 37), (1, .int v1), (2, .int s.1)] [] LY88 s.2 R) C (fun s o e => ?_) n s o e hC
  intro hK
  refine BJm_growRanks_L2_s L xs v1 R s.1 s.2 o (fun s q => by subst q; exact hK) (fun t q => by subst q; exact hE t hK) e
set_option maxRecDepth 100000 in
theorem BJm_growRanks (L : Nat) (xs : Nat → Int32) (v1 : Int32) (h : Hp) (o : Hp) (e : Jm_growRanks v1 h = some o) : Bg L xs 194 0 [(0, .ref 37), (1, .int v1)] [] LY88 h ([], LY88, o) := by
  obtain ⟨R, hR⟩ : ∃ R : List Value × Lay × Hp, R = ([], LY88, o) := ⟨_, rfl⟩
  rw [← hR]
  refine seg_Bg (pc' := 2) (lv' := [(0, .ref 37), (1, .int v1), (2, .int 0)]) (st' := []) (lay' := LY88) (h' := h) 2 rfl ?_
  obtain ⟨t5o, et5o, e⟩ := bd_s e
  refine BJm_growRanks_L2 L xs v1 R (fun (t5 : Int32 × Hp) => (some t5.2) = some o) (fun t5 e => ?_) 1000000 (0, h) _ et5o e
  rw [hR, ← Option.some.inj e]; exact ret_Bg rfl

set_option maxRecDepth 100000 in
theorem BJm_rankOf_L2_s (L : Nat) (xs : Nat → Int32) (v1 : Int32) (R : List Value × Lay × Hp) (v2 : Int32) (h : Hp) (o : ((Int32 × Hp) ⊕ (Int32 × Hp))) (hH : ∀ s : Int32 × Hp, o = .inl s → Bg L xs 195 2 [(0, .ref 37), (1, .int v1), (2, .int s.1)] [] LY88 s.2 R) (hE : ∀ t : Int32 × Hp, o = .inr t → Bg L xs 195 46 [(0, .ref 37), (1, .int v1), (2, .int t.1)] [] LY88 t.2 R) (e : Jm_rankOf_L2 v1 v2 h = some o) : Bg L xs 195 2 [(0, .ref 37), (1, .int v1), (2, .int v2)] [] LY88 h R := by
  refine seg_Bg (pc' := (if v2 < (h 37 14) then 10 else 46)) (lv' := [(0, .ref 37), (1, .int v1), (2, .int v2)]) (st' := []) (lay' := LY88) (h' := h) 4 rfl ?_
  refine pc_ite e (fun e => ?_) (fun e => ?_)
  · refine seg_Bg (pc' := (if (h 37 16) = 0 then 17 else 46)) (lv' := [(0, .ref 37), (1, .int v1), (2, .int v2)]) (st' := []) (lay' := LY88) (h' := h) 3 rfl ?_
    refine pc_ite e (fun e => ?_) (fun e => ?_)
    · refine seg_Bg (pc' := 27) (lv' := [(0, .ref 37), (1, .int v1), (2, .int v2)]) (st' := [.int v2, .ref 44, .int v2, .ref 45]) (lay' := LY88) (h' := h) 6 rfl ?_
      refine gd_Bg (pc' := 28) (lv' := [(0, .ref 37), (1, .int v1), (2, .int v2)]) (st' := [.int (h 44 (Int32.toNatClampNeg v2)), .int v2, .ref 45]) (lay' := LY88) (h' := h) (g := ibB v2 512) rfl e fun e => ?_
      refine seg_Bg (pc' := (if (h 44 (Int32.toNatClampNeg v2)) = 4095 then 34 else 38)) (lv' := [(0, .ref 37), (1, .int v1), (2, .int v2)]) (st' := [.int v2, .ref 45]) (lay' := LY88) (h' := h) 2 rfl ?_
      refine pc_ite e (fun e => ?_) (fun e => ?_)
      · refine seg_Bg (pc' := 39) (lv' := [(0, .ref 37), (1, .int v1), (2, .int v2)]) (st' := [.int 0, .int v2, .ref 45]) (lay' := LY88) (h' := h) 2 rfl ?_
        refine gp_Bg (pc' := 40) (lv' := [(0, .ref 37), (1, .int v1), (2, .int v2)]) (st' := []) (lay' := LY88) (x := hset h 45 (Int32.toNatClampNeg v2) 0) (g := ibB v2 512) rfl e fun h1 e => ?_
        refine seg_Bg (pc' := 2) (lv' := [(0, .ref 37), (1, .int v1), (2, .int (v2 + 1))]) (st' := []) (lay' := LY88) (h' := h1) 2 rfl ?_
        exact hH (v2 + 1, h1) (Option.some.inj e).symm
      · refine seg_Bg (pc' := 39) (lv' := [(0, .ref 37), (1, .int v1), (2, .int v2)]) (st' := [.int (-1), .int v2, .ref 45]) (lay' := LY88) (h' := h) 1 rfl ?_
        refine gp_Bg (pc' := 40) (lv' := [(0, .ref 37), (1, .int v1), (2, .int v2)]) (st' := []) (lay' := LY88) (x := hset h 45 (Int32.toNatClampNeg v2) (-1)) (g := ibB v2 512) rfl e fun h2 e => ?_
        refine seg_Bg (pc' := 2) (lv' := [(0, .ref 37), (1, .int v1), (2, .int (v2 + 1))]) (st' := []) (lay' := LY88) (h' := h2) 2 rfl ?_
        exact hH (v2 + 1, h2) (Option.some.inj e).symm
    · exact hE (v2, h) (Option.some.inj e).symm
  · exact hE (v2, h) (Option.some.inj e).symm
theorem BJm_rankOf_L2 (L : Nat) (xs : Nat → Int32) (v1 : Int32) (R : List Value × Lay × Hp) (C : (Int32 × Hp) → Prop) (hE : ∀ t : Int32 × Hp, C t → Bg L xs 195 46 [(0, .ref 37), (1, .int v1), (2, .int t.1)] [] LY88 t.2 R) (n : Nat) (s : Int32 × Hp) (o : (Int32 × Hp)) (e : loopN n (fun s => Jm_rankOf_L2 v1 s.1 s.2) s = some o) (hC : C o) : Bg L xs 195 2 [(0, .ref 37), (1, .int v1), (2, .int s.1)] [] LY88 s.2 R := by
  refine loop_B (fun s => Jm_rankOf_L2 v1 s.1 s.2) (fun s : Int32 × Hp => Bg L xs 195 2 [(0, .ref 37), (1, .int v1), (2, .int s.1)] [] LY88 s.2 R) C (fun s o e => ?_) n s o e hC
  intro hK
  refine BJm_rankOf_L2_s L xs v1 R s.1 s.2 o (fun s q => by subst q; exact hK) (fun t q => by subst q; exact hE t hK) e
set_option maxRecDepth 100000 in
theorem BJm_rankOf_L48_s (L : Nat) (xs : Nat → Int32) (v1 : Int32) (R : List Value × Lay × Hp) (v2 : Int32) (h : Hp) (o : ((Int32 × Hp) ⊕ (Int32 × Hp))) (hH : ∀ s : Int32 × Hp, o = .inl s → Bg L xs 195 48 [(0, .ref 37), (1, .int v1), (2, .int s.1)] [] LY88 s.2 R) (hE : ∀ t : Int32 × Hp, o = .inr t → Bg L xs 195 72 [(0, .ref 37), (1, .int v1), (2, .int t.1)] [] LY88 t.2 R) (e : Jm_rankOf_L48 v1 v2 h = some o) : Bg L xs 195 48 [(0, .ref 37), (1, .int v1), (2, .int v2)] [] LY88 h R := by
  refine seg_Bg (pc' := (if v2 < 12 then 54 else 72)) (lv' := [(0, .ref 37), (1, .int v1), (2, .int v2)]) (st' := []) (lay' := LY88) (h' := h) 3 rfl ?_
  refine pc_ite e (fun e => ?_) (fun e => ?_)
  · refine seg_Bg (pc' := (if (h 37 16) = 0 then 61 else 72)) (lv' := [(0, .ref 37), (1, .int v1), (2, .int v2)]) (st' := []) (lay' := LY88) (h' := h) 3 rfl ?_
    refine pc_ite e (fun e => ?_) (fun e => ?_)
    · refine seg_Bg (pc' := 63) (lv' := [(0, .ref 37), (1, .int v1), (2, .int v2)]) (st' := [.int v2, .ref 37]) (lay' := LY88) (h' := h) 2 rfl ?_
      refine call_Bg (a := 194) (la := [(0, .ref 37), (1, .int v2)]) (np := 66) (lv' := [(0, .ref 37), (1, .int v1), (2, .int v2)]) (rest := []) (res := fun r => ([], LY88, r)) rfl e (fun r e => BJm_growRanks L xs v2 h r e) (fun c4 e => ?_)
      show Bg L xs 195 66 [(0, .ref 37), (1, .int v1), (2, .int v2)] [] LY88 c4 R
      refine seg_Bg (pc' := 48) (lv' := [(0, .ref 37), (1, .int v1), (2, .int (v2 + 1))]) (st' := []) (lay' := LY88) (h' := c4) 2 rfl ?_
      exact hH (v2 + 1, c4) (Option.some.inj e).symm
    · exact hE (v2, h) (Option.some.inj e).symm
  · exact hE (v2, h) (Option.some.inj e).symm
theorem BJm_rankOf_L48 (L : Nat) (xs : Nat → Int32) (v1 : Int32) (R : List Value × Lay × Hp) (C : (Int32 × Hp) → Prop) (hE : ∀ t : Int32 × Hp, C t → Bg L xs 195 72 [(0, .ref 37), (1, .int v1), (2, .int t.1)] [] LY88 t.2 R) (n : Nat) (s : Int32 × Hp) (o : (Int32 × Hp)) (e : loopN n (fun s => Jm_rankOf_L48 v1 s.1 s.2) s = some o) (hC : C o) : Bg L xs 195 48 [(0, .ref 37), (1, .int v1), (2, .int s.1)] [] LY88 s.2 R := by
  refine loop_B (fun s => Jm_rankOf_L48 v1 s.1 s.2) (fun s : Int32 × Hp => Bg L xs 195 48 [(0, .ref 37), (1, .int v1), (2, .int s.1)] [] LY88 s.2 R) C (fun s o e => ?_) n s o e hC
  intro hK
  refine BJm_rankOf_L48_s L xs v1 R s.1 s.2 o (fun s q => by subst q; exact hK) (fun t q => by subst q; exact hE t hK) e
set_option maxRecDepth 100000 in
theorem BJm_rankOf (L : Nat) (xs : Nat → Int32) (v1 : Int32) (h : Hp) (o : Int32 × Hp) (e : Jm_rankOf v1 h = some o) : Bg L xs 195 0 [(0, .ref 37), (1, .int v1)] [] LY88 h ([.int o.1], LY88, o.2) := by
  obtain ⟨R, hR⟩ : ∃ R : List Value × Lay × Hp, R = ([.int o.1], LY88, o.2) := ⟨_, rfl⟩
  rw [← hR]
  refine seg_Bg (pc' := 2) (lv' := [(0, .ref 37), (1, .int v1), (2, .int 0)]) (st' := []) (lay' := LY88) (h' := h) 2 rfl ?_
  obtain ⟨t3o, et3o, e⟩ := bd_s e
  refine BJm_rankOf_L2 L xs v1 R (fun (t3 : Int32 × Hp) => (bd (loopN 1000000 (fun s => Jm_rankOf_L48 v1 s.1 s.2) (0, t3.2)) fun (t5 : Int32 × Hp) => lt (hset t5.2 37 16 1) fun h6 => bif ibB v1 512 then some (h6 45 (Int32.toNatClampNeg v1), h6) else none) = some o) (fun t3 e => ?_) 1000000 (0, h) _ et3o e
  refine seg_Bg (pc' := 48) (lv' := [(0, .ref 37), (1, .int v1), (2, .int 0)]) (st' := []) (lay' := LY88) (h' := t3.2) 2 rfl ?_
  obtain ⟨t5o, et5o, e⟩ := bd_s e
  refine BJm_rankOf_L48 L xs v1 R (fun (t5 : Int32 × Hp) => (lt (hset t5.2 37 16 1) fun h6 => bif ibB v1 512 then some (h6 45 (Int32.toNatClampNeg v1), h6) else none) = some o) (fun t5 e => ?_) 1000000 (0, t3.2) _ et5o e
  refine seg_Bg (pc' := 74) (lv' := [(0, .ref 37), (1, .int v1), (2, .int t5.1)]) (st' := [.int 1, .ref 37]) (lay' := LY88) (h' := t5.2) 2 rfl ?_
  refine put_Bg (pc' := 77) (lv' := [(0, .ref 37), (1, .int v1), (2, .int t5.1)]) (st' := []) (lay' := LY88) (x := hset t5.2 37 16 1) rfl e fun h6 e => ?_
  refine seg_Bg (pc' := 82) (lv' := [(0, .ref 37), (1, .int v1), (2, .int t5.1)]) (st' := [.int v1, .ref 45]) (lay' := LY88) (h' := h6) 3 rfl ?_
  refine gd_Bg (pc' := 83) (lv' := [(0, .ref 37), (1, .int v1), (2, .int t5.1)]) (st' := [.int (h6 45 (Int32.toNatClampNeg v1))]) (lay' := LY88) (h' := h6) (g := ibB v1 512) rfl e fun e => ?_
  rw [hR, ← Option.some.inj e]; exact ret_Bg rfl

set_option maxRecDepth 100000 in
theorem BJm_place (L : Nat) (xs : Nat → Int32) (v1 : Int32) (v2 : Int32) (h : Hp) (o : Int32 × Hp) (e : Jm_place v1 v2 h = some o) : Bg L xs 232 0 [(0, .ref 37), (1, .int v1), (2, .int v2)] [] LY88 h ([.int o.1], LY88, o.2) := by
  obtain ⟨R, hR⟩ : ∃ R : List Value × Lay × Hp, R = ([.int o.1], LY88, o.2) := ⟨_, rfl⟩
  rw [← hR]
  refine seg_Bg (pc' := 2) (lv' := [(0, .ref 37), (1, .int v1), (2, .int v2)]) (st' := [.int v1, .ref 37]) (lay' := LY88) (h' := h) 2 rfl ?_
  refine call_Bg (a := 189) (la := [(0, .ref 37), (1, .int v1)]) (np := 5) (lv' := [(0, .ref 37), (1, .int v1), (2, .int v2)]) (rest := []) (res := fun r => ([.int r.1], LY88, r.2)) rfl e (fun r e => BJm_isPlace L xs v1 h r e) (fun c1 e => ?_)
  show Bg L xs 232 5 [(0, .ref 37), (1, .int v1), (2, .int v2)] [.int c1.1] LY88 c1.2 R
  refine seg_Bg (pc' := (if c1.1 = 0 then 8 else 12)) (lv' := [(0, .ref 37), (1, .int v1), (2, .int v2)]) (st' := []) (lay' := LY88) (h' := c1.2) 1 rfl ?_
  refine pc_ite e (fun e => ?_) (fun e => ?_)
  · refine seg_Bg (pc' := 11) (lv' := [(0, .ref 37), (1, .int v1), (2, .int v2)]) (st' := [.int (-1000000001)]) (lay' := LY88) (h' := c1.2) 1 rfl ?_
    rw [hR, ← Option.some.inj e]; exact ret_Bg rfl
  · refine seg_Bg (pc' := (if v2 = 0 then 48 else if v2 = 1 then 55 else if v2 = 2 then 61 else if v2 = 3 then 61 else if v2 = 4 then 78 else 84)) (lv' := [(0, .ref 37), (1, .int v1), (2, .int v2)]) (st' := []) (lay' := LY88) (h' := c1.2) 2 rfl ?_
    refine pc_ite e (fun e => ?_) (fun e => ?_)
    · refine seg_Bg (pc' := 53) (lv' := [(0, .ref 37), (1, .int v1), (2, .int v2)]) (st' := [.int v1, .ref 44]) (lay' := LY88) (h' := c1.2) 3 rfl ?_
      refine gd_Bg (pc' := 54) (lv' := [(0, .ref 37), (1, .int v1), (2, .int v2)]) (st' := [.int (c1.2 44 (Int32.toNatClampNeg v1))]) (lay' := LY88) (h' := c1.2) (g := ibB v1 512) rfl e fun e => ?_
      rw [hR, ← Option.some.inj e]; exact ret_Bg rfl
    · refine pc_ite e (fun e => ?_) (fun e => ?_)
      · refine seg_Bg (pc' := 57) (lv' := [(0, .ref 37), (1, .int v1), (2, .int v2)]) (st' := [.int v1, .ref 37]) (lay' := LY88) (h' := c1.2) 2 rfl ?_
        refine call_Bg (a := 193) (la := [(0, .ref 37), (1, .int v1)]) (np := 60) (lv' := [(0, .ref 37), (1, .int v1), (2, .int v2)]) (rest := []) (res := fun r => ([.int r], LY88, c1.2)) rfl e (fun r e => BJm_inside L xs v1 c1.2 r e) (fun c2 e => ?_)
        show Bg L xs 232 60 [(0, .ref 37), (1, .int v1), (2, .int v2)] [.int c2] LY88 c1.2 R
        rw [hR, ← Option.some.inj e]; exact ret_Bg rfl
      · refine pc_ite e (fun e => ?_) (fun e => ?_)
        · refine seg_Bg (pc' := (if v2 = 2 then 69 else 73)) (lv' := [(0, .ref 37), (1, .int v1), (2, .int v2)]) (st' := [.int (-1), .int v1, .ref 37]) (lay' := LY88) (h' := c1.2) 6 rfl ?_
          refine pc_ite e (fun e => ?_) (fun e => ?_)
          · refine seg_Bg (pc' := 74) (lv' := [(0, .ref 37), (1, .int v1), (2, .int v2)]) (st' := [.int 1, .int (-1), .int v1, .ref 37]) (lay' := LY88) (h' := c1.2) 2 rfl ?_
            refine call_Bg (a := 192) (la := [(0, .ref 37), (1, .int v1), (2, .int (-1)), (3, .int 1)]) (np := 77) (lv' := [(0, .ref 37), (1, .int v1), (2, .int v2)]) (rest := []) (res := fun r => ([.int r], LY88, c1.2)) rfl e (fun r e => BJm_neighbour L xs v1 (-1) 1 c1.2 r e) (fun c3 e => ?_)
            show Bg L xs 232 77 [(0, .ref 37), (1, .int v1), (2, .int v2)] [.int c3] LY88 c1.2 R
            rw [hR, ← Option.some.inj e]; exact ret_Bg rfl
          · refine seg_Bg (pc' := 74) (lv' := [(0, .ref 37), (1, .int v1), (2, .int v2)]) (st' := [.int 0, .int (-1), .int v1, .ref 37]) (lay' := LY88) (h' := c1.2) 1 rfl ?_
            refine call_Bg (a := 192) (la := [(0, .ref 37), (1, .int v1), (2, .int (-1)), (3, .int 0)]) (np := 77) (lv' := [(0, .ref 37), (1, .int v1), (2, .int v2)]) (rest := []) (res := fun r => ([.int r], LY88, c1.2)) rfl e (fun r e => BJm_neighbour L xs v1 (-1) 0 c1.2 r e) (fun c4 e => ?_)
            show Bg L xs 232 77 [(0, .ref 37), (1, .int v1), (2, .int v2)] [.int c4] LY88 c1.2 R
            rw [hR, ← Option.some.inj e]; exact ret_Bg rfl
        · refine pc_ite e (fun e => ?_) (fun e => ?_)
          · refine seg_Bg (pc' := (if v2 = 2 then 69 else 73)) (lv' := [(0, .ref 37), (1, .int v1), (2, .int v2)]) (st' := [.int (-1), .int v1, .ref 37]) (lay' := LY88) (h' := c1.2) 6 rfl ?_
            refine pc_ite e (fun e => ?_) (fun e => ?_)
            · refine seg_Bg (pc' := 74) (lv' := [(0, .ref 37), (1, .int v1), (2, .int v2)]) (st' := [.int 1, .int (-1), .int v1, .ref 37]) (lay' := LY88) (h' := c1.2) 2 rfl ?_
              refine call_Bg (a := 192) (la := [(0, .ref 37), (1, .int v1), (2, .int (-1)), (3, .int 1)]) (np := 77) (lv' := [(0, .ref 37), (1, .int v1), (2, .int v2)]) (rest := []) (res := fun r => ([.int r], LY88, c1.2)) rfl e (fun r e => BJm_neighbour L xs v1 (-1) 1 c1.2 r e) (fun c5 e => ?_)
              show Bg L xs 232 77 [(0, .ref 37), (1, .int v1), (2, .int v2)] [.int c5] LY88 c1.2 R
              rw [hR, ← Option.some.inj e]; exact ret_Bg rfl
            · refine seg_Bg (pc' := 74) (lv' := [(0, .ref 37), (1, .int v1), (2, .int v2)]) (st' := [.int 0, .int (-1), .int v1, .ref 37]) (lay' := LY88) (h' := c1.2) 1 rfl ?_
              refine call_Bg (a := 192) (la := [(0, .ref 37), (1, .int v1), (2, .int (-1)), (3, .int 0)]) (np := 77) (lv' := [(0, .ref 37), (1, .int v1), (2, .int v2)]) (rest := []) (res := fun r => ([.int r], LY88, c1.2)) rfl e (fun r e => BJm_neighbour L xs v1 (-1) 0 c1.2 r e) (fun c6 e => ?_)
              show Bg L xs 232 77 [(0, .ref 37), (1, .int v1), (2, .int v2)] [.int c6] LY88 c1.2 R
              rw [hR, ← Option.some.inj e]; exact ret_Bg rfl
          · refine pc_ite e (fun e => ?_) (fun e => ?_)
            · refine seg_Bg (pc' := 80) (lv' := [(0, .ref 37), (1, .int v1), (2, .int v2)]) (st' := [.int v1, .ref 37]) (lay' := LY88) (h' := c1.2) 2 rfl ?_
              refine call_Bg (a := 195) (la := [(0, .ref 37), (1, .int v1)]) (np := 83) (lv' := [(0, .ref 37), (1, .int v1), (2, .int v2)]) (rest := []) (res := fun r => ([.int r.1], LY88, r.2)) rfl e (fun r e => BJm_rankOf L xs v1 c1.2 r e) (fun c7 e => ?_)
              show Bg L xs 232 83 [(0, .ref 37), (1, .int v1), (2, .int v2)] [.int c7.1] LY88 c7.2 R
              rw [hR, ← Option.some.inj e]; exact ret_Bg rfl
            · refine seg_Bg (pc' := 86) (lv' := [(0, .ref 37), (1, .int v1), (2, .int v2)]) (st' := [.int (-1000000002)]) (lay' := LY88) (h' := c1.2) 1 rfl ?_
              rw [hR, ← Option.some.inj e]; exact ret_Bg rfl

set_option maxRecDepth 100000 in
theorem BJpl_next_L6_s (L : Nat) (xs : Nat → Int32) (v1 v2 v3 : Int32) (h : Hp) (R : List Value × Lay × Hp) (v4 v5 : Int32) (o : ((Int32 × Int32) ⊕ ((Int32 × Int32) ⊕ (Int32)))) (hH : ∀ s : Int32 × Int32, o = .inl s → Bg L xs 73 6 [(0, .ref 4), (1, .int v1), (2, .int v2), (3, .int v3), (4, .int s.1), (5, .int s.2)] [] LY88 h R) (hE : ∀ t : Int32 × Int32, o = .inr (.inl t) → Bg L xs 73 52 [(0, .ref 4), (1, .int v1), (2, .int v2), (3, .int v3), (4, .int t.1), (5, .int t.2)] [] LY88 h R) (hR : ∀ r : Int32, o = .inr (.inr r) → R = ([.int r], LY88, h)) (e : Jpl_next_L6 v1 v2 v3 h v4 v5 = some o) : Bg L xs 73 6 [(0, .ref 4), (1, .int v1), (2, .int v2), (3, .int v3), (4, .int v4), (5, .int v5)] [] LY88 h R := by
  refine seg_Bg (pc' := (if v5 < (h 4 4) then 15 else 52)) (lv' := [(0, .ref 4), (1, .int v1), (2, .int v2), (3, .int v3), (4, .int v4), (5, .int v5)]) (st' := []) (lay' := LY88) (h' := h) 4 rfl ?_
  refine pc_ite e (fun e => ?_) (fun e => ?_)
  · refine seg_Bg (pc' := (if v5 < 4096 then 23 else 52)) (lv' := [(0, .ref 4), (1, .int v1), (2, .int v2), (3, .int v3), (4, .int v4), (5, .int v5)]) (st' := []) (lay' := LY88) (h' := h) 3 rfl ?_
    refine pc_ite e (fun e => ?_) (fun e => ?_)
    · refine seg_Bg (pc' := 28) (lv' := [(0, .ref 4), (1, .int v1), (2, .int v2), (3, .int v3), (4, .int v4), (5, .int v5)]) (st' := [.int v3, .int v5, .int v1, .ref 4]) (lay' := LY88) (h' := h) 4 rfl ?_
      refine call_Bg (a := 74) (la := [(0, .ref 4), (1, .int v1), (2, .int v5), (3, .int v3)]) (np := 31) (lv' := [(0, .ref 4), (1, .int v1), (2, .int v2), (3, .int v3), (4, .int v4), (5, .int v5)]) (rest := []) (res := fun r => ([.int r], LY88, h)) rfl e (fun r e => BJpl_isNext L xs v1 v5 v3 h r e) (fun c1 e => ?_)
      show Bg L xs 73 31 [(0, .ref 4), (1, .int v1), (2, .int v2), (3, .int v3), (4, .int v4), (5, .int v5)] [.int c1] LY88 h R
      refine seg_Bg (pc' := (if c1 = 0 then 46 else 34)) (lv' := [(0, .ref 4), (1, .int v1), (2, .int v2), (3, .int v3), (4, .int v4), (5, .int v5)]) (st' := []) (lay' := LY88) (h' := h) 1 rfl ?_
      refine pc_ite e (fun e => ?_) (fun e => ?_)
      · refine seg_Bg (pc' := 6) (lv' := [(0, .ref 4), (1, .int v1), (2, .int v2), (3, .int v3), (4, .int v4), (5, .int (v5 + 1))]) (st' := []) (lay' := LY88) (h' := h) 2 rfl ?_
        exact hH (v4, v5 + 1) (Option.some.inj e).symm
      · refine seg_Bg (pc' := (if v4 = v2 then 40 else 43)) (lv' := [(0, .ref 4), (1, .int v1), (2, .int v2), (3, .int v3), (4, .int v4), (5, .int v5)]) (st' := []) (lay' := LY88) (h' := h) 3 rfl ?_
        refine pc_ite e (fun e => ?_) (fun e => ?_)
        · refine seg_Bg (pc' := 42) (lv' := [(0, .ref 4), (1, .int v1), (2, .int v2), (3, .int v3), (4, .int v4), (5, .int v5)]) (st' := [.int v5]) (lay' := LY88) (h' := h) 1 rfl ?_
          rw [hR v5 (Option.some.inj e).symm]; exact ret_Bg rfl
        · refine seg_Bg (pc' := 6) (lv' := [(0, .ref 4), (1, .int v1), (2, .int v2), (3, .int v3), (4, .int (v4 + 1)), (5, .int (v5 + 1))]) (st' := []) (lay' := LY88) (h' := h) 3 rfl ?_
          exact hH (v4 + 1, v5 + 1) (Option.some.inj e).symm
    · exact hE (v4, v5) (Option.some.inj e).symm
  · exact hE (v4, v5) (Option.some.inj e).symm
theorem BJpl_next_L6 (L : Nat) (xs : Nat → Int32) (v1 v2 v3 : Int32) (h : Hp) (R : List Value × Lay × Hp) (C : ((Int32 × Int32) ⊕ (Int32)) → Prop) (hE : ∀ t : Int32 × Int32, C (.inl t) → Bg L xs 73 52 [(0, .ref 4), (1, .int v1), (2, .int v2), (3, .int v3), (4, .int t.1), (5, .int t.2)] [] LY88 h R) (hR : ∀ r : Int32, C (.inr r) → R = ([.int r], LY88, h)) (n : Nat) (s : Int32 × Int32) (o : ((Int32 × Int32) ⊕ (Int32))) (e : loopN n (fun s => Jpl_next_L6 v1 v2 v3 h s.1 s.2) s = some o) (hC : C o) : Bg L xs 73 6 [(0, .ref 4), (1, .int v1), (2, .int v2), (3, .int v3), (4, .int s.1), (5, .int s.2)] [] LY88 h R := by
  refine loop_B (fun s => Jpl_next_L6 v1 v2 v3 h s.1 s.2) (fun s : Int32 × Int32 => Bg L xs 73 6 [(0, .ref 4), (1, .int v1), (2, .int v2), (3, .int v3), (4, .int s.1), (5, .int s.2)] [] LY88 h R) C (fun s o e => ?_) n s o e hC
  intro hK
  refine BJpl_next_L6_s L xs v1 v2 v3 h R s.1 s.2 o (fun s q => by subst q; exact hK) (fun t q => by subst q; exact hE t hK) (fun r q => by subst q; exact hR r hK) e
set_option maxRecDepth 100000 in
theorem BJpl_next (L : Nat) (xs : Nat → Int32) (v1 : Int32) (v2 : Int32) (v3 : Int32) (h : Hp) (o : Int32) (e : Jpl_next v1 v2 v3 h = some o) : Bg L xs 73 0 [(0, .ref 4), (1, .int v1), (2, .int v2), (3, .int v3)] [] LY88 h ([.int o], LY88, h) := by
  obtain ⟨R, hR⟩ : ∃ R : List Value × Lay × Hp, R = ([.int o], LY88, h) := ⟨_, rfl⟩
  rw [← hR]
  refine seg_Bg (pc' := 6) (lv' := [(0, .ref 4), (1, .int v1), (2, .int v2), (3, .int v3), (4, .int 0), (5, .int 0)]) (st' := []) (lay' := LY88) (h' := h) 4 rfl ?_
  obtain ⟨t2o, et2o, e⟩ := bd_s e
  refine BJpl_next_L6 L xs v1 v2 v3 h R (fun (t2x : (Int32 × Int32) ⊕ (Int32)) => (sm t2x (fun t2 => some (-1)) (fun r2 => some r2)) = some o) (fun t2 e => ?_) (fun r2 e => ?_) 1000000 (0, 0) _ et2o e
  · refine seg_Bg (pc' := 53) (lv' := [(0, .ref 4), (1, .int v1), (2, .int v2), (3, .int v3), (4, .int t2.1), (5, .int t2.2)]) (st' := [.int (-1)]) (lay' := LY88) (h' := h) 1 rfl ?_
    rw [hR, ← Option.some.inj e]; exact ret_Bg rfl
  · rw [hR]; exact congrArg (fun r => (([.int r], LY88, h) : List Value × Lay × Hp)) (Option.some.inj e).symm

set_option maxRecDepth 100000 in
theorem BJyn_nextPlace (L : Nat) (xs : Nat → Int32) (v1 : Int32) (v2 : Int32) (v3 : Int32) (h : Hp) (o : Int32) (e : Jyn_nextPlace v1 v2 v3 h = some o) : Bg L xs 159 0 [(0, .ref 0), (1, .int v1), (2, .int v2), (3, .int v3)] [] LY88 h ([.int o], LY88, h) := by
  obtain ⟨R, hR⟩ : ∃ R : List Value × Lay × Hp, R = ([.int o], LY88, h) := ⟨_, rfl⟩
  rw [← hR]
  refine seg_Bg (pc' := 5) (lv' := [(0, .ref 0), (1, .int v1), (2, .int v2), (3, .int v3)]) (st' := [.int v1, .ref 4]) (lay' := LY88) (h' := h) 3 rfl ?_
  refine call_Bg (a := 64) (la := [(0, .ref 4), (1, .int v1)]) (np := 8) (lv' := [(0, .ref 0), (1, .int v1), (2, .int v2), (3, .int v3)]) (rest := []) (res := fun r => ([.int r], LY88, h)) rfl e (fun r e => BJpl_holds L xs v1 h r e) (fun c1 e => ?_)
  show Bg L xs 159 8 [(0, .ref 0), (1, .int v1), (2, .int v2), (3, .int v3)] [.int c1] LY88 h R
  refine seg_Bg (pc' := (if c1 = 0 then 11 else 14)) (lv' := [(0, .ref 0), (1, .int v1), (2, .int v2), (3, .int v3)]) (st' := []) (lay' := LY88) (h' := h) 1 rfl ?_
  refine pc_ite e (fun e => ?_) (fun e => ?_)
  · refine seg_Bg (pc' := 13) (lv' := [(0, .ref 0), (1, .int v1), (2, .int v2), (3, .int v3)]) (st' := [.int (-1000000001)]) (lay' := LY88) (h' := h) 1 rfl ?_
    rw [hR, ← Option.some.inj e]; exact ret_Bg rfl
  · refine seg_Bg (pc' := (if v2 < 0 then 18 else 23)) (lv' := [(0, .ref 0), (1, .int v1), (2, .int v2), (3, .int v3)]) (st' := []) (lay' := LY88) (h' := h) 2 rfl ?_
    refine pc_ite e (fun e => ?_) (fun e => ?_)
    · refine seg_Bg (pc' := 33) (lv' := [(0, .ref 0), (1, .int v1), (2, .int v2), (3, .int v3)]) (st' := [.int (-1000000002)]) (lay' := LY88) (h' := h) 2 rfl ?_
      rw [hR, ← Option.some.inj e]; exact ret_Bg rfl
    · refine seg_Bg (pc' := 30) (lv' := [(0, .ref 0), (1, .int v1), (2, .int v2), (3, .int v3)]) (st' := [.int v3, .int v2, .int v1, .ref 4]) (lay' := LY88) (h' := h) 5 rfl ?_
      refine call_Bg (a := 73) (la := [(0, .ref 4), (1, .int v1), (2, .int v2), (3, .int v3)]) (np := 33) (lv' := [(0, .ref 0), (1, .int v1), (2, .int v2), (3, .int v3)]) (rest := []) (res := fun r => ([.int r], LY88, h)) rfl e (fun r e => BJpl_next L xs v1 v2 v3 h r e) (fun c2 e => ?_)
      show Bg L xs 159 33 [(0, .ref 0), (1, .int v1), (2, .int v2), (3, .int v3)] [.int c2] LY88 h R
      rw [hR, ← Option.some.inj e]; exact ret_Bg rfl

set_option maxRecDepth 100000 in
theorem BJyn_above (L : Nat) (xs : Nat → Int32) (v1 : Int32) (v2 : Int32) (h : Hp) (o : Int32) (e : Jyn_above v1 v2 h = some o) : Bg L xs 141 0 [(0, .ref 0), (1, .int v1), (2, .int v2)] [] LY88 h ([.int o], LY88, h) := by
  obtain ⟨R, hR⟩ : ∃ R : List Value × Lay × Hp, R = ([.int o], LY88, h) := ⟨_, rfl⟩
  rw [← hR]
  refine seg_Bg (pc' := 4) (lv' := [(0, .ref 0), (1, .int v1), (2, .int v2)]) (st' := [.int 1, .int v2, .int v1, .ref 0]) (lay' := LY88) (h' := h) 4 rfl ?_
  refine call_Bg (a := 159) (la := [(0, .ref 0), (1, .int v1), (2, .int v2), (3, .int 1)]) (np := 7) (lv' := [(0, .ref 0), (1, .int v1), (2, .int v2)]) (rest := []) (res := fun r => ([.int r], LY88, h)) rfl e (fun r e => BJyn_nextPlace L xs v1 v2 1 h r e) (fun c1 e => ?_)
  show Bg L xs 141 7 [(0, .ref 0), (1, .int v1), (2, .int v2)] [.int c1] LY88 h R
  rw [hR, ← Option.some.inj e]; exact ret_Bg rfl

set_option maxRecDepth 100000 in
theorem BJm_beside (L : Nat) (xs : Nat → Int32) (v1 : Int32) (v2 : Int32) (v3 : Int32) (h : Hp) (o : Int32 × Hp) (e : Jm_beside v1 v2 v3 h = some o) : Bg L xs 233 0 [(0, .ref 37), (1, .int v1), (2, .int v2), (3, .int v3)] [] LY88 h ([.int o.1], LY88, o.2) := by
  obtain ⟨R, hR⟩ : ∃ R : List Value × Lay × Hp, R = ([.int o.1], LY88, o.2) := ⟨_, rfl⟩
  rw [← hR]
  refine seg_Bg (pc' := 2) (lv' := [(0, .ref 37), (1, .int v1), (2, .int v2), (3, .int v3)]) (st' := [.int v1, .ref 37]) (lay' := LY88) (h' := h) 2 rfl ?_
  refine call_Bg (a := 189) (la := [(0, .ref 37), (1, .int v1)]) (np := 5) (lv' := [(0, .ref 37), (1, .int v1), (2, .int v2), (3, .int v3)]) (rest := []) (res := fun r => ([.int r.1], LY88, r.2)) rfl e (fun r e => BJm_isPlace L xs v1 h r e) (fun c1 e => ?_)
  show Bg L xs 233 5 [(0, .ref 37), (1, .int v1), (2, .int v2), (3, .int v3)] [.int c1.1] LY88 c1.2 R
  refine seg_Bg (pc' := (if c1.1 = 0 then 8 else 12)) (lv' := [(0, .ref 37), (1, .int v1), (2, .int v2), (3, .int v3)]) (st' := []) (lay' := LY88) (h' := c1.2) 1 rfl ?_
  refine pc_ite e (fun e => ?_) (fun e => ?_)
  · refine seg_Bg (pc' := 11) (lv' := [(0, .ref 37), (1, .int v1), (2, .int v2), (3, .int v3)]) (st' := [.int (-1000000001)]) (lay' := LY88) (h' := c1.2) 1 rfl ?_
    rw [hR, ← Option.some.inj e]; exact ret_Bg rfl
  · refine seg_Bg (pc' := (if v2 < 0 then 16 else 21)) (lv' := [(0, .ref 37), (1, .int v1), (2, .int v2), (3, .int v3)]) (st' := []) (lay' := LY88) (h' := c1.2) 2 rfl ?_
    refine pc_ite e (fun e => ?_) (fun e => ?_)
    · refine seg_Bg (pc' := 28) (lv' := [(0, .ref 37), (1, .int v1), (2, .int v2), (3, .int v3)]) (st' := [.int (-1000000002)]) (lay' := LY88) (h' := c1.2) 2 rfl ?_
      rw [hR, ← Option.some.inj e]; exact ret_Bg rfl
    · refine seg_Bg (pc' := 25) (lv' := [(0, .ref 37), (1, .int v1), (2, .int v2), (3, .int v3)]) (st' := [.int v3, .int v2, .int v1, .ref 37]) (lay' := LY88) (h' := c1.2) 4 rfl ?_
      refine call_Bg (a := 192) (la := [(0, .ref 37), (1, .int v1), (2, .int v2), (3, .int v3)]) (np := 28) (lv' := [(0, .ref 37), (1, .int v1), (2, .int v2), (3, .int v3)]) (rest := []) (res := fun r => ([.int r], LY88, c1.2)) rfl e (fun r e => BJm_neighbour L xs v1 v2 v3 c1.2 r e) (fun c2 e => ?_)
      show Bg L xs 233 28 [(0, .ref 37), (1, .int v1), (2, .int v2), (3, .int v3)] [.int c2] LY88 c1.2 R
      rw [hR, ← Option.some.inj e]; exact ret_Bg rfl

set_option maxRecDepth 100000 in
theorem BJm_above (L : Nat) (xs : Nat → Int32) (v1 : Int32) (v2 : Int32) (h : Hp) (o : Int32 × Hp) (e : Jm_above v1 v2 h = some o) : Bg L xs 234 0 [(0, .ref 37), (1, .int v1), (2, .int v2)] [] LY88 h ([.int o.1], LY88, o.2) := by
  obtain ⟨R, hR⟩ : ∃ R : List Value × Lay × Hp, R = ([.int o.1], LY88, o.2) := ⟨_, rfl⟩
  rw [← hR]
  refine seg_Bg (pc' := 4) (lv' := [(0, .ref 37), (1, .int v1), (2, .int v2)]) (st' := [.int 1, .int v2, .int v1, .ref 37]) (lay' := LY88) (h' := h) 4 rfl ?_
  refine call_Bg (a := 233) (la := [(0, .ref 37), (1, .int v1), (2, .int v2), (3, .int 1)]) (np := 7) (lv' := [(0, .ref 37), (1, .int v1), (2, .int v2)]) (rest := []) (res := fun r => ([.int r.1], LY88, r.2)) rfl e (fun r e => BJm_beside L xs v1 v2 1 h r e) (fun c1 e => ?_)
  show Bg L xs 234 7 [(0, .ref 37), (1, .int v1), (2, .int v2)] [.int c1.1] LY88 c1.2 R
  rw [hR, ← Option.some.inj e]; exact ret_Bg rfl

set_option maxRecDepth 100000 in
theorem BJyn_below (L : Nat) (xs : Nat → Int32) (v1 : Int32) (v2 : Int32) (h : Hp) (o : Int32) (e : Jyn_below v1 v2 h = some o) : Bg L xs 142 0 [(0, .ref 0), (1, .int v1), (2, .int v2)] [] LY88 h ([.int o], LY88, h) := by
  obtain ⟨R, hR⟩ : ∃ R : List Value × Lay × Hp, R = ([.int o], LY88, h) := ⟨_, rfl⟩
  rw [← hR]
  refine seg_Bg (pc' := 4) (lv' := [(0, .ref 0), (1, .int v1), (2, .int v2)]) (st' := [.int 0, .int v2, .int v1, .ref 0]) (lay' := LY88) (h' := h) 4 rfl ?_
  refine call_Bg (a := 159) (la := [(0, .ref 0), (1, .int v1), (2, .int v2), (3, .int 0)]) (np := 7) (lv' := [(0, .ref 0), (1, .int v1), (2, .int v2)]) (rest := []) (res := fun r => ([.int r], LY88, h)) rfl e (fun r e => BJyn_nextPlace L xs v1 v2 0 h r e) (fun c1 e => ?_)
  show Bg L xs 142 7 [(0, .ref 0), (1, .int v1), (2, .int v2)] [.int c1] LY88 h R
  rw [hR, ← Option.some.inj e]; exact ret_Bg rfl

set_option maxRecDepth 100000 in
theorem BJm_below (L : Nat) (xs : Nat → Int32) (v1 : Int32) (v2 : Int32) (h : Hp) (o : Int32 × Hp) (e : Jm_below v1 v2 h = some o) : Bg L xs 235 0 [(0, .ref 37), (1, .int v1), (2, .int v2)] [] LY88 h ([.int o.1], LY88, o.2) := by
  obtain ⟨R, hR⟩ : ∃ R : List Value × Lay × Hp, R = ([.int o.1], LY88, o.2) := ⟨_, rfl⟩
  rw [← hR]
  refine seg_Bg (pc' := 4) (lv' := [(0, .ref 37), (1, .int v1), (2, .int v2)]) (st' := [.int 0, .int v2, .int v1, .ref 37]) (lay' := LY88) (h' := h) 4 rfl ?_
  refine call_Bg (a := 233) (la := [(0, .ref 37), (1, .int v1), (2, .int v2), (3, .int 0)]) (np := 7) (lv' := [(0, .ref 37), (1, .int v1), (2, .int v2)]) (rest := []) (res := fun r => ([.int r.1], LY88, r.2)) rfl e (fun r e => BJm_beside L xs v1 v2 0 h r e) (fun c1 e => ?_)
  show Bg L xs 235 7 [(0, .ref 37), (1, .int v1), (2, .int v2)] [.int c1.1] LY88 c1.2 R
  rw [hR, ← Option.some.inj e]; exact ret_Bg rfl

set_option maxRecDepth 100000 in
theorem BJpl_closureOf_L6_s (L : Nat) (xs : Nat → Int32) (v1 : Int32) (h : Hp) (R : List Value × Lay × Hp) (v2 v3 : Int32) (o : ((Int32 × Int32) ⊕ (Int32 × Int32))) (hH : ∀ s : Int32 × Int32, o = .inl s → Bg L xs 71 6 [(0, .ref 4), (1, .int v1), (2, .int s.1), (3, .int s.2)] [] LY88 h R) (hE : ∀ t : Int32 × Int32, o = .inr t → Bg L xs 71 48 [(0, .ref 4), (1, .int v1), (2, .int t.1), (3, .int t.2)] [] LY88 h R) (e : Jpl_closureOf_L6 v1 h v2 v3 = some o) : Bg L xs 71 6 [(0, .ref 4), (1, .int v1), (2, .int v2), (3, .int v3)] [] LY88 h R := by
  refine seg_Bg (pc' := (if v3 < (h 4 4) then 14 else 48)) (lv' := [(0, .ref 4), (1, .int v1), (2, .int v2), (3, .int v3)]) (st' := []) (lay' := LY88) (h' := h) 4 rfl ?_
  refine pc_ite e (fun e => ?_) (fun e => ?_)
  · refine seg_Bg (pc' := (if v3 < 4096 then 21 else 48)) (lv' := [(0, .ref 4), (1, .int v1), (2, .int v2), (3, .int v3)]) (st' := []) (lay' := LY88) (h' := h) 3 rfl ?_
    refine pc_ite e (fun e => ?_) (fun e => ?_)
    · refine seg_Bg (pc' := 26) (lv' := [(0, .ref 4), (1, .int v1), (2, .int v2), (3, .int v3)]) (st' := [.int v3, .ref 6]) (lay' := LY88) (h' := h) 3 rfl ?_
      refine gd_Bg (pc' := 27) (lv' := [(0, .ref 4), (1, .int v1), (2, .int v2), (3, .int v3)]) (st' := [.int (h 6 (Int32.toNatClampNeg v3))]) (lay' := LY88) (h' := h) (g := ibB v3 4096) rfl e fun e => ?_
      refine seg_Bg (pc' := (if ((h 6 (Int32.toNatClampNeg v3)) &&& v1) = v1 then 33 else 42)) (lv' := [(0, .ref 4), (1, .int v1), (2, .int v2), (3, .int v3)]) (st' := []) (lay' := LY88) (h' := h) 4 rfl ?_
      refine pc_ite e (fun e => ?_) (fun e => ?_)
      · refine seg_Bg (pc' := 39) (lv' := [(0, .ref 4), (1, .int v1), (2, .int v2), (3, .int v3)]) (st' := [.int v3, .ref 6, .int v2]) (lay' := LY88) (h' := h) 4 rfl ?_
        refine gd_Bg (pc' := 40) (lv' := [(0, .ref 4), (1, .int v1), (2, .int v2), (3, .int v3)]) (st' := [.int (h 6 (Int32.toNatClampNeg v3)), .int v2]) (lay' := LY88) (h' := h) (g := ibB v3 4096) rfl e fun e => ?_
        refine seg_Bg (pc' := 6) (lv' := [(0, .ref 4), (1, .int v1), (2, .int (v2 &&& (h 6 (Int32.toNatClampNeg v3)))), (3, .int (v3 + 1))]) (st' := []) (lay' := LY88) (h' := h) 4 rfl ?_
        exact hH (v2 &&& (h 6 (Int32.toNatClampNeg v3)), v3 + 1) (Option.some.inj e).symm
      · refine seg_Bg (pc' := 6) (lv' := [(0, .ref 4), (1, .int v1), (2, .int v2), (3, .int (v3 + 1))]) (st' := []) (lay' := LY88) (h' := h) 2 rfl ?_
        exact hH (v2, v3 + 1) (Option.some.inj e).symm
    · exact hE (v2, v3) (Option.some.inj e).symm
  · exact hE (v2, v3) (Option.some.inj e).symm
theorem BJpl_closureOf_L6 (L : Nat) (xs : Nat → Int32) (v1 : Int32) (h : Hp) (R : List Value × Lay × Hp) (C : (Int32 × Int32) → Prop) (hE : ∀ t : Int32 × Int32, C t → Bg L xs 71 48 [(0, .ref 4), (1, .int v1), (2, .int t.1), (3, .int t.2)] [] LY88 h R) (n : Nat) (s : Int32 × Int32) (o : (Int32 × Int32)) (e : loopN n (fun s => Jpl_closureOf_L6 v1 h s.1 s.2) s = some o) (hC : C o) : Bg L xs 71 6 [(0, .ref 4), (1, .int v1), (2, .int s.1), (3, .int s.2)] [] LY88 h R := by
  refine loop_B (fun s => Jpl_closureOf_L6 v1 h s.1 s.2) (fun s : Int32 × Int32 => Bg L xs 71 6 [(0, .ref 4), (1, .int v1), (2, .int s.1), (3, .int s.2)] [] LY88 h R) C (fun s o e => ?_) n s o e hC
  intro hK
  refine BJpl_closureOf_L6_s L xs v1 h R s.1 s.2 o (fun s q => by subst q; exact hK) (fun t q => by subst q; exact hE t hK) e
set_option maxRecDepth 100000 in
theorem BJpl_closureOf (L : Nat) (xs : Nat → Int32) (v1 : Int32) (h : Hp) (o : Int32) (e : Jpl_closureOf v1 h = some o) : Bg L xs 71 0 [(0, .ref 4), (1, .int v1)] [] LY88 h ([.int o], LY88, h) := by
  obtain ⟨R, hR⟩ : ∃ R : List Value × Lay × Hp, R = ([.int o], LY88, h) := ⟨_, rfl⟩
  rw [← hR]
  refine seg_Bg (pc' := 6) (lv' := [(0, .ref 4), (1, .int v1), (2, .int 4095), (3, .int 0)]) (st' := []) (lay' := LY88) (h' := h) 4 rfl ?_
  obtain ⟨t1o, et1o, e⟩ := bd_s e
  refine BJpl_closureOf_L6 L xs v1 h R (fun (t1 : Int32 × Int32) => (some t1.1) = some o) (fun t1 e => ?_) 1000000 (4095, 0) _ et1o e
  refine seg_Bg (pc' := 49) (lv' := [(0, .ref 4), (1, .int v1), (2, .int t1.1), (3, .int t1.2)]) (st' := [.int t1.1]) (lay' := LY88) (h' := h) 1 rfl ?_
  rw [hR, ← Option.some.inj e]; exact ret_Bg rfl

set_option maxRecDepth 100000 in
theorem BJyn_meet (L : Nat) (xs : Nat → Int32) (v1 : Int32) (v2 : Int32) (h : Hp) (o : Int32) (e : Jyn_meet v1 v2 h = some o) : Bg L xs 143 0 [(0, .ref 0), (1, .int v1), (2, .int v2)] [] LY88 h ([.int o], LY88, h) := by
  obtain ⟨R, hR⟩ : ∃ R : List Value × Lay × Hp, R = ([.int o], LY88, h) := ⟨_, rfl⟩
  rw [← hR]
  refine seg_Bg (pc' := 5) (lv' := [(0, .ref 0), (1, .int v1), (2, .int v2)]) (st' := [.int v1, .ref 4]) (lay' := LY88) (h' := h) 3 rfl ?_
  refine call_Bg (a := 64) (la := [(0, .ref 4), (1, .int v1)]) (np := 8) (lv' := [(0, .ref 0), (1, .int v1), (2, .int v2)]) (rest := []) (res := fun r => ([.int r], LY88, h)) rfl e (fun r e => BJpl_holds L xs v1 h r e) (fun c1 e => ?_)
  show Bg L xs 143 8 [(0, .ref 0), (1, .int v1), (2, .int v2)] [.int c1] LY88 h R
  refine seg_Bg (pc' := (if c1 = 0 then 22 else 11)) (lv' := [(0, .ref 0), (1, .int v1), (2, .int v2)]) (st' := []) (lay' := LY88) (h' := h) 1 rfl ?_
  refine pc_ite e (fun e => ?_) (fun e => ?_)
  · refine seg_Bg (pc' := 24) (lv' := [(0, .ref 0), (1, .int v1), (2, .int v2)]) (st' := [.int (-1000000001)]) (lay' := LY88) (h' := h) 1 rfl ?_
    rw [hR, ← Option.some.inj e]; exact ret_Bg rfl
  · refine seg_Bg (pc' := 16) (lv' := [(0, .ref 0), (1, .int v1), (2, .int v2)]) (st' := [.int v2, .ref 4]) (lay' := LY88) (h' := h) 3 rfl ?_
    refine call_Bg (a := 64) (la := [(0, .ref 4), (1, .int v2)]) (np := 19) (lv' := [(0, .ref 0), (1, .int v1), (2, .int v2)]) (rest := []) (res := fun r => ([.int r], LY88, h)) rfl e (fun r e => BJpl_holds L xs v2 h r e) (fun c2 e => ?_)
    show Bg L xs 143 19 [(0, .ref 0), (1, .int v1), (2, .int v2)] [.int c2] LY88 h R
    refine seg_Bg (pc' := (if c2 = 0 then 22 else 25)) (lv' := [(0, .ref 0), (1, .int v1), (2, .int v2)]) (st' := []) (lay' := LY88) (h' := h) 1 rfl ?_
    refine pc_ite e (fun e => ?_) (fun e => ?_)
    · refine seg_Bg (pc' := 24) (lv' := [(0, .ref 0), (1, .int v1), (2, .int v2)]) (st' := [.int (-1000000001)]) (lay' := LY88) (h' := h) 1 rfl ?_
      rw [hR, ← Option.some.inj e]; exact ret_Bg rfl
    · refine seg_Bg (pc' := 38) (lv' := [(0, .ref 0), (1, .int v1), (2, .int v2)]) (st' := [.int v1, .ref 4, .ref 4, .ref 4]) (lay' := LY88) (h' := h) 7 rfl ?_
      refine call_Bg (a := 66) (la := [(0, .ref 4), (1, .int v1)]) (np := 41) (lv' := [(0, .ref 0), (1, .int v1), (2, .int v2)]) (rest := [.ref 4, .ref 4]) (res := fun r => ([.int r], LY88, h)) rfl e (fun r e => BJpl_setOf L xs v1 h r e) (fun c3 e => ?_)
      show Bg L xs 143 41 [(0, .ref 0), (1, .int v1), (2, .int v2)] [.int c3, .ref 4, .ref 4] LY88 h R
      refine seg_Bg (pc' := 46) (lv' := [(0, .ref 0), (1, .int v1), (2, .int v2)]) (st' := [.int v2, .ref 4, .int c3, .ref 4, .ref 4]) (lay' := LY88) (h' := h) 3 rfl ?_
      refine call_Bg (a := 66) (la := [(0, .ref 4), (1, .int v2)]) (np := 49) (lv' := [(0, .ref 0), (1, .int v1), (2, .int v2)]) (rest := [.int c3, .ref 4, .ref 4]) (res := fun r => ([.int r], LY88, h)) rfl e (fun r e => BJpl_setOf L xs v2 h r e) (fun c4 e => ?_)
      show Bg L xs 143 49 [(0, .ref 0), (1, .int v1), (2, .int v2)] [.int c4, .int c3, .ref 4, .ref 4] LY88 h R
      refine seg_Bg (pc' := 50) (lv' := [(0, .ref 0), (1, .int v1), (2, .int v2)]) (st' := [.int (c3 ||| c4), .ref 4, .ref 4]) (lay' := LY88) (h' := h) 1 rfl ?_
      refine call_Bg (a := 71) (la := [(0, .ref 4), (1, .int (c3 ||| c4))]) (np := 53) (lv' := [(0, .ref 0), (1, .int v1), (2, .int v2)]) (rest := [.ref 4]) (res := fun r => ([.int r], LY88, h)) rfl e (fun r e => BJpl_closureOf L xs (c3 ||| c4) h r e) (fun c5 e => ?_)
      show Bg L xs 143 53 [(0, .ref 0), (1, .int v1), (2, .int v2)] [.int c5, .ref 4] LY88 h R
      refine call_Bg (a := 67) (la := [(0, .ref 4), (1, .int c5)]) (np := 56) (lv' := [(0, .ref 0), (1, .int v1), (2, .int v2)]) (rest := []) (res := fun r => ([.int r], LY88, h)) rfl e (fun r e => BJpl_numberOf L xs c5 h r e) (fun c6 e => ?_)
      show Bg L xs 143 56 [(0, .ref 0), (1, .int v1), (2, .int v2)] [.int c6] LY88 h R
      rw [hR, ← Option.some.inj e]; exact ret_Bg rfl

set_option maxRecDepth 100000 in
theorem BJm_meet (L : Nat) (xs : Nat → Int32) (v1 : Int32) (v2 : Int32) (h : Hp) (o : Int32 × Hp) (e : Jm_meet v1 v2 h = some o) : Bg L xs 236 0 [(0, .ref 37), (1, .int v1), (2, .int v2)] [] LY88 h ([.int o.1], LY88, o.2) := by
  obtain ⟨R, hR⟩ : ∃ R : List Value × Lay × Hp, R = ([.int o.1], LY88, o.2) := ⟨_, rfl⟩
  rw [← hR]
  refine seg_Bg (pc' := 2) (lv' := [(0, .ref 37), (1, .int v1), (2, .int v2)]) (st' := [.int v1, .ref 37]) (lay' := LY88) (h' := h) 2 rfl ?_
  refine call_Bg (a := 189) (la := [(0, .ref 37), (1, .int v1)]) (np := 5) (lv' := [(0, .ref 37), (1, .int v1), (2, .int v2)]) (rest := []) (res := fun r => ([.int r.1], LY88, r.2)) rfl e (fun r e => BJm_isPlace L xs v1 h r e) (fun c1 e => ?_)
  show Bg L xs 236 5 [(0, .ref 37), (1, .int v1), (2, .int v2)] [.int c1.1] LY88 c1.2 R
  refine seg_Bg (pc' := (if c1.1 = 0 then 40 else 8)) (lv' := [(0, .ref 37), (1, .int v1), (2, .int v2)]) (st' := []) (lay' := LY88) (h' := c1.2) 1 rfl ?_
  refine pc_ite e (fun e => ?_) (fun e => ?_)
  · refine seg_Bg (pc' := 43) (lv' := [(0, .ref 37), (1, .int v1), (2, .int v2)]) (st' := [.int (-1000000001)]) (lay' := LY88) (h' := c1.2) 1 rfl ?_
    rw [hR, ← Option.some.inj e]; exact ret_Bg rfl
  · refine seg_Bg (pc' := 10) (lv' := [(0, .ref 37), (1, .int v1), (2, .int v2)]) (st' := [.int v2, .ref 37]) (lay' := LY88) (h' := c1.2) 2 rfl ?_
    refine call_Bg (a := 189) (la := [(0, .ref 37), (1, .int v2)]) (np := 13) (lv' := [(0, .ref 37), (1, .int v1), (2, .int v2)]) (rest := []) (res := fun r => ([.int r.1], LY88, r.2)) rfl e (fun r e => BJm_isPlace L xs v2 c1.2 r e) (fun c2 e => ?_)
    show Bg L xs 236 13 [(0, .ref 37), (1, .int v1), (2, .int v2)] [.int c2.1] LY88 c2.2 R
    refine seg_Bg (pc' := (if c2.1 = 0 then 40 else 16)) (lv' := [(0, .ref 37), (1, .int v1), (2, .int v2)]) (st' := []) (lay' := LY88) (h' := c2.2) 1 rfl ?_
    refine pc_ite e (fun e => ?_) (fun e => ?_)
    · refine seg_Bg (pc' := 43) (lv' := [(0, .ref 37), (1, .int v1), (2, .int v2)]) (st' := [.int (-1000000001)]) (lay' := LY88) (h' := c2.2) 1 rfl ?_
      rw [hR, ← Option.some.inj e]; exact ret_Bg rfl
    · refine seg_Bg (pc' := 23) (lv' := [(0, .ref 37), (1, .int v1), (2, .int v2)]) (st' := [.int v1, .ref 44, .ref 37, .ref 37]) (lay' := LY88) (h' := c2.2) 5 rfl ?_
      refine gd_Bg (pc' := 24) (lv' := [(0, .ref 37), (1, .int v1), (2, .int v2)]) (st' := [.int (c2.2 44 (Int32.toNatClampNeg v1)), .ref 37, .ref 37]) (lay' := LY88) (h' := c2.2) (g := ibB v1 512) rfl e fun e => ?_
      refine seg_Bg (pc' := 29) (lv' := [(0, .ref 37), (1, .int v1), (2, .int v2)]) (st' := [.int v2, .ref 44, .int (c2.2 44 (Int32.toNatClampNeg v1)), .ref 37, .ref 37]) (lay' := LY88) (h' := c2.2) 3 rfl ?_
      refine gd_Bg (pc' := 30) (lv' := [(0, .ref 37), (1, .int v1), (2, .int v2)]) (st' := [.int (c2.2 44 (Int32.toNatClampNeg v2)), .int (c2.2 44 (Int32.toNatClampNeg v1)), .ref 37, .ref 37]) (lay' := LY88) (h' := c2.2) (g := ibB v2 512) rfl e fun e => ?_
      refine seg_Bg (pc' := 31) (lv' := [(0, .ref 37), (1, .int v1), (2, .int v2)]) (st' := [.int ((c2.2 44 (Int32.toNatClampNeg v1)) ||| (c2.2 44 (Int32.toNatClampNeg v2))), .ref 37, .ref 37]) (lay' := LY88) (h' := c2.2) 1 rfl ?_
      refine call_Bg (a := 186) (la := [(0, .ref 37), (1, .int ((c2.2 44 (Int32.toNatClampNeg v1)) ||| (c2.2 44 (Int32.toNatClampNeg v2))))]) (np := 34) (lv' := [(0, .ref 37), (1, .int v1), (2, .int v2)]) (rest := [.ref 37]) (res := fun r => ([.int r], LY88, c2.2)) rfl e (fun r e => BJm_shut L xs ((c2.2 44 (Int32.toNatClampNeg v1)) ||| (c2.2 44 (Int32.toNatClampNeg v2))) c2.2 r e) (fun c3 e => ?_)
      show Bg L xs 236 34 [(0, .ref 37), (1, .int v1), (2, .int v2)] [.int c3, .ref 37] LY88 c2.2 R
      refine call_Bg (a := 188) (la := [(0, .ref 37), (1, .int c3)]) (np := 37) (lv' := [(0, .ref 37), (1, .int v1), (2, .int v2)]) (rest := []) (res := fun r => ([.int r.1], LY88, r.2)) rfl e (fun r e => BJm_placeOf L xs c3 c2.2 r e) (fun c4 e => ?_)
      show Bg L xs 236 37 [(0, .ref 37), (1, .int v1), (2, .int v2)] [.int c4.1] LY88 c4.2 R
      refine seg_Bg (pc' := 43) (lv' := [(0, .ref 37), (1, .int v1), (2, .int v2)]) (st' := [.int c4.1]) (lay' := LY88) (h' := c4.2) 1 rfl ?_
      rw [hR, ← Option.some.inj e]; exact ret_Bg rfl

set_option maxRecDepth 100000 in
theorem BJyn_join (L : Nat) (xs : Nat → Int32) (v1 : Int32) (v2 : Int32) (h : Hp) (o : Int32) (e : Jyn_join v1 v2 h = some o) : Bg L xs 144 0 [(0, .ref 0), (1, .int v1), (2, .int v2)] [] LY88 h ([.int o], LY88, h) := by
  obtain ⟨R, hR⟩ : ∃ R : List Value × Lay × Hp, R = ([.int o], LY88, h) := ⟨_, rfl⟩
  rw [← hR]
  refine seg_Bg (pc' := 5) (lv' := [(0, .ref 0), (1, .int v1), (2, .int v2)]) (st' := [.int v1, .ref 4]) (lay' := LY88) (h' := h) 3 rfl ?_
  refine call_Bg (a := 64) (la := [(0, .ref 4), (1, .int v1)]) (np := 8) (lv' := [(0, .ref 0), (1, .int v1), (2, .int v2)]) (rest := []) (res := fun r => ([.int r], LY88, h)) rfl e (fun r e => BJpl_holds L xs v1 h r e) (fun c1 e => ?_)
  show Bg L xs 144 8 [(0, .ref 0), (1, .int v1), (2, .int v2)] [.int c1] LY88 h R
  refine seg_Bg (pc' := (if c1 = 0 then 22 else 11)) (lv' := [(0, .ref 0), (1, .int v1), (2, .int v2)]) (st' := []) (lay' := LY88) (h' := h) 1 rfl ?_
  refine pc_ite e (fun e => ?_) (fun e => ?_)
  · refine seg_Bg (pc' := 24) (lv' := [(0, .ref 0), (1, .int v1), (2, .int v2)]) (st' := [.int (-1000000001)]) (lay' := LY88) (h' := h) 1 rfl ?_
    rw [hR, ← Option.some.inj e]; exact ret_Bg rfl
  · refine seg_Bg (pc' := 16) (lv' := [(0, .ref 0), (1, .int v1), (2, .int v2)]) (st' := [.int v2, .ref 4]) (lay' := LY88) (h' := h) 3 rfl ?_
    refine call_Bg (a := 64) (la := [(0, .ref 4), (1, .int v2)]) (np := 19) (lv' := [(0, .ref 0), (1, .int v1), (2, .int v2)]) (rest := []) (res := fun r => ([.int r], LY88, h)) rfl e (fun r e => BJpl_holds L xs v2 h r e) (fun c2 e => ?_)
    show Bg L xs 144 19 [(0, .ref 0), (1, .int v1), (2, .int v2)] [.int c2] LY88 h R
    refine seg_Bg (pc' := (if c2 = 0 then 22 else 25)) (lv' := [(0, .ref 0), (1, .int v1), (2, .int v2)]) (st' := []) (lay' := LY88) (h' := h) 1 rfl ?_
    refine pc_ite e (fun e => ?_) (fun e => ?_)
    · refine seg_Bg (pc' := 24) (lv' := [(0, .ref 0), (1, .int v1), (2, .int v2)]) (st' := [.int (-1000000001)]) (lay' := LY88) (h' := h) 1 rfl ?_
      rw [hR, ← Option.some.inj e]; exact ret_Bg rfl
    · refine seg_Bg (pc' := 34) (lv' := [(0, .ref 0), (1, .int v1), (2, .int v2)]) (st' := [.int v1, .ref 4, .ref 4]) (lay' := LY88) (h' := h) 5 rfl ?_
      refine call_Bg (a := 66) (la := [(0, .ref 4), (1, .int v1)]) (np := 37) (lv' := [(0, .ref 0), (1, .int v1), (2, .int v2)]) (rest := [.ref 4]) (res := fun r => ([.int r], LY88, h)) rfl e (fun r e => BJpl_setOf L xs v1 h r e) (fun c3 e => ?_)
      show Bg L xs 144 37 [(0, .ref 0), (1, .int v1), (2, .int v2)] [.int c3, .ref 4] LY88 h R
      refine seg_Bg (pc' := 42) (lv' := [(0, .ref 0), (1, .int v1), (2, .int v2)]) (st' := [.int v2, .ref 4, .int c3, .ref 4]) (lay' := LY88) (h' := h) 3 rfl ?_
      refine call_Bg (a := 66) (la := [(0, .ref 4), (1, .int v2)]) (np := 45) (lv' := [(0, .ref 0), (1, .int v1), (2, .int v2)]) (rest := [.int c3, .ref 4]) (res := fun r => ([.int r], LY88, h)) rfl e (fun r e => BJpl_setOf L xs v2 h r e) (fun c4 e => ?_)
      show Bg L xs 144 45 [(0, .ref 0), (1, .int v1), (2, .int v2)] [.int c4, .int c3, .ref 4] LY88 h R
      refine seg_Bg (pc' := 46) (lv' := [(0, .ref 0), (1, .int v1), (2, .int v2)]) (st' := [.int (c3 &&& c4), .ref 4]) (lay' := LY88) (h' := h) 1 rfl ?_
      refine call_Bg (a := 67) (la := [(0, .ref 4), (1, .int (c3 &&& c4))]) (np := 49) (lv' := [(0, .ref 0), (1, .int v1), (2, .int v2)]) (rest := []) (res := fun r => ([.int r], LY88, h)) rfl e (fun r e => BJpl_numberOf L xs (c3 &&& c4) h r e) (fun c5 e => ?_)
      show Bg L xs 144 49 [(0, .ref 0), (1, .int v1), (2, .int v2)] [.int c5] LY88 h R
      rw [hR, ← Option.some.inj e]; exact ret_Bg rfl

set_option maxRecDepth 100000 in
theorem BJm_join (L : Nat) (xs : Nat → Int32) (v1 : Int32) (v2 : Int32) (h : Hp) (o : Int32 × Hp) (e : Jm_join v1 v2 h = some o) : Bg L xs 237 0 [(0, .ref 37), (1, .int v1), (2, .int v2)] [] LY88 h ([.int o.1], LY88, o.2) := by
  obtain ⟨R, hR⟩ : ∃ R : List Value × Lay × Hp, R = ([.int o.1], LY88, o.2) := ⟨_, rfl⟩
  rw [← hR]
  refine seg_Bg (pc' := 2) (lv' := [(0, .ref 37), (1, .int v1), (2, .int v2)]) (st' := [.int v1, .ref 37]) (lay' := LY88) (h' := h) 2 rfl ?_
  refine call_Bg (a := 189) (la := [(0, .ref 37), (1, .int v1)]) (np := 5) (lv' := [(0, .ref 37), (1, .int v1), (2, .int v2)]) (rest := []) (res := fun r => ([.int r.1], LY88, r.2)) rfl e (fun r e => BJm_isPlace L xs v1 h r e) (fun c1 e => ?_)
  show Bg L xs 237 5 [(0, .ref 37), (1, .int v1), (2, .int v2)] [.int c1.1] LY88 c1.2 R
  refine seg_Bg (pc' := (if c1.1 = 0 then 36 else 8)) (lv' := [(0, .ref 37), (1, .int v1), (2, .int v2)]) (st' := []) (lay' := LY88) (h' := c1.2) 1 rfl ?_
  refine pc_ite e (fun e => ?_) (fun e => ?_)
  · refine seg_Bg (pc' := 39) (lv' := [(0, .ref 37), (1, .int v1), (2, .int v2)]) (st' := [.int (-1000000001)]) (lay' := LY88) (h' := c1.2) 1 rfl ?_
    rw [hR, ← Option.some.inj e]; exact ret_Bg rfl
  · refine seg_Bg (pc' := 10) (lv' := [(0, .ref 37), (1, .int v1), (2, .int v2)]) (st' := [.int v2, .ref 37]) (lay' := LY88) (h' := c1.2) 2 rfl ?_
    refine call_Bg (a := 189) (la := [(0, .ref 37), (1, .int v2)]) (np := 13) (lv' := [(0, .ref 37), (1, .int v1), (2, .int v2)]) (rest := []) (res := fun r => ([.int r.1], LY88, r.2)) rfl e (fun r e => BJm_isPlace L xs v2 c1.2 r e) (fun c2 e => ?_)
    show Bg L xs 237 13 [(0, .ref 37), (1, .int v1), (2, .int v2)] [.int c2.1] LY88 c2.2 R
    refine seg_Bg (pc' := (if c2.1 = 0 then 36 else 16)) (lv' := [(0, .ref 37), (1, .int v1), (2, .int v2)]) (st' := []) (lay' := LY88) (h' := c2.2) 1 rfl ?_
    refine pc_ite e (fun e => ?_) (fun e => ?_)
    · refine seg_Bg (pc' := 39) (lv' := [(0, .ref 37), (1, .int v1), (2, .int v2)]) (st' := [.int (-1000000001)]) (lay' := LY88) (h' := c2.2) 1 rfl ?_
      rw [hR, ← Option.some.inj e]; exact ret_Bg rfl
    · refine seg_Bg (pc' := 22) (lv' := [(0, .ref 37), (1, .int v1), (2, .int v2)]) (st' := [.int v1, .ref 44, .ref 37]) (lay' := LY88) (h' := c2.2) 4 rfl ?_
      refine gd_Bg (pc' := 23) (lv' := [(0, .ref 37), (1, .int v1), (2, .int v2)]) (st' := [.int (c2.2 44 (Int32.toNatClampNeg v1)), .ref 37]) (lay' := LY88) (h' := c2.2) (g := ibB v1 512) rfl e fun e => ?_
      refine seg_Bg (pc' := 28) (lv' := [(0, .ref 37), (1, .int v1), (2, .int v2)]) (st' := [.int v2, .ref 44, .int (c2.2 44 (Int32.toNatClampNeg v1)), .ref 37]) (lay' := LY88) (h' := c2.2) 3 rfl ?_
      refine gd_Bg (pc' := 29) (lv' := [(0, .ref 37), (1, .int v1), (2, .int v2)]) (st' := [.int (c2.2 44 (Int32.toNatClampNeg v2)), .int (c2.2 44 (Int32.toNatClampNeg v1)), .ref 37]) (lay' := LY88) (h' := c2.2) (g := ibB v2 512) rfl e fun e => ?_
      refine seg_Bg (pc' := 30) (lv' := [(0, .ref 37), (1, .int v1), (2, .int v2)]) (st' := [.int ((c2.2 44 (Int32.toNatClampNeg v1)) &&& (c2.2 44 (Int32.toNatClampNeg v2))), .ref 37]) (lay' := LY88) (h' := c2.2) 1 rfl ?_
      refine call_Bg (a := 188) (la := [(0, .ref 37), (1, .int ((c2.2 44 (Int32.toNatClampNeg v1)) &&& (c2.2 44 (Int32.toNatClampNeg v2))))]) (np := 33) (lv' := [(0, .ref 37), (1, .int v1), (2, .int v2)]) (rest := []) (res := fun r => ([.int r.1], LY88, r.2)) rfl e (fun r e => BJm_placeOf L xs ((c2.2 44 (Int32.toNatClampNeg v1)) &&& (c2.2 44 (Int32.toNatClampNeg v2))) c2.2 r e) (fun c3 e => ?_)
      show Bg L xs 237 33 [(0, .ref 37), (1, .int v1), (2, .int v2)] [.int c3.1] LY88 c3.2 R
      refine seg_Bg (pc' := 39) (lv' := [(0, .ref 37), (1, .int v1), (2, .int v2)]) (st' := [.int c3.1]) (lay' := LY88) (h' := c3.2) 1 rfl ?_
      rw [hR, ← Option.some.inj e]; exact ret_Bg rfl

set_option maxRecDepth 100000 in
theorem BJre_isRelation (L : Nat) (xs : Nat → Int32) (v0 : Int32) (v1 : Int32) (lay : Lay) (h : Hp) (o : Int32) (e : Jre_isRelation v0 v1 = some o) : Bg L xs 88 0 [(0, .int v0), (1, .int v1)] [] lay h ([.int o], lay, h) := by
  obtain ⟨R, hR⟩ : ∃ R : List Value × Lay × Hp, R = ([.int o], lay, h) := ⟨_, rfl⟩
  rw [← hR]
  refine seg_Bg (pc' := (if v0 < 1 then 22 else 5)) (lv' := [(0, .int v0), (1, .int v1)]) (st' := []) (lay' := lay) (h' := h) 3 rfl ?_
  refine pc_ite e (fun e => ?_) (fun e => ?_)
  · refine seg_Bg (pc' := 23) (lv' := [(0, .int v0), (1, .int v1)]) (st' := [.int 0]) (lay' := lay) (h' := h) 1 rfl ?_
    rw [hR, ← Option.some.inj e]; exact ret_Bg rfl
  · refine seg_Bg (pc' := (if 3 < v0 then 22 else 10)) (lv' := [(0, .int v0), (1, .int v1)]) (st' := []) (lay' := lay) (h' := h) 3 rfl ?_
    refine pc_ite e (fun e => ?_) (fun e => ?_)
    · refine seg_Bg (pc' := 23) (lv' := [(0, .int v0), (1, .int v1)]) (st' := [.int 0]) (lay' := lay) (h' := h) 1 rfl ?_
      rw [hR, ← Option.some.inj e]; exact ret_Bg rfl
    · refine seg_Bg (pc' := (if (v1 >>> (((1 : Int32) <<< (v0 &&& 31) : Int32) &&& 31) : Int32) = 0 then 18 else 22)) (lv' := [(0, .int v0), (1, .int v1)]) (st' := []) (lay' := lay) (h' := h) 6 rfl ?_
      refine pc_ite e (fun e => ?_) (fun e => ?_)
      · refine seg_Bg (pc' := 23) (lv' := [(0, .int v0), (1, .int v1)]) (st' := [.int 1]) (lay' := lay) (h' := h) 2 rfl ?_
        rw [hR, ← Option.some.inj e]; exact ret_Bg rfl
      · refine seg_Bg (pc' := 23) (lv' := [(0, .int v0), (1, .int v1)]) (st' := [.int 0]) (lay' := lay) (h' := h) 1 rfl ?_
        rw [hR, ← Option.some.inj e]; exact ret_Bg rfl

set_option maxRecDepth 100000 in
theorem BJre_has (L : Nat) (xs : Nat → Int32) (v0 : Int32) (v1 : Int32) (lay : Lay) (h : Hp) (o : Int32) (e : Jre_has v0 v1 = some o) : Bg L xs 90 0 [(0, .int v0), (1, .int v1)] [] lay h ([.int o], lay, h) := by
  obtain ⟨R, hR⟩ : ∃ R : List Value × Lay × Hp, R = ([.int o], lay, h) := ⟨_, rfl⟩
  rw [← hR]
  refine seg_Bg (pc' := (if ((v0 >>> (v1 &&& 31) : Int32) &&& (1 : Int32)) = 0 then 12 else 8)) (lv' := [(0, .int v0), (1, .int v1)]) (st' := []) (lay' := lay) (h' := h) 6 rfl ?_
  refine pc_ite e (fun e => ?_) (fun e => ?_)
  · refine seg_Bg (pc' := 13) (lv' := [(0, .int v0), (1, .int v1)]) (st' := [.int 0]) (lay' := lay) (h' := h) 1 rfl ?_
    rw [hR, ← Option.some.inj e]; exact ret_Bg rfl
  · refine seg_Bg (pc' := 13) (lv' := [(0, .int v0), (1, .int v1)]) (st' := [.int 1]) (lay' := lay) (h' := h) 2 rfl ?_
    rw [hR, ← Option.some.inj e]; exact ret_Bg rfl

set_option maxRecDepth 100000 in
theorem BJre_isKeptBy_L45_s (L : Nat) (xs : Nat → Int32) (v0 v1 v2 v3 v4 v5 : Int32) (lay : Lay) (h : Hp) (R : List Value × Lay × Hp) (v6 : Int32) (o : ((Int32) ⊕ ((Int32) ⊕ (Int32)))) (hH : ∀ s : Int32, o = .inl s → Bg L xs 89 45 [(0, .int v0), (1, .int v1), (2, .int v2), (3, .int v3), (4, .int v4), (5, .int v5), (6, .int s)] [] lay h R) (hE : ∀ t : Int32, o = .inr (.inl t) → Bg L xs 89 95 [(0, .int v0), (1, .int v1), (2, .int v2), (3, .int v3), (4, .int v4), (5, .int v5), (6, .int t)] [] lay h R) (hR : ∀ r : Int32, o = .inr (.inr r) → R = ([.int r], lay, h)) (e : Jre_isKeptBy_L45 v0 v1 v2 v3 v4 v5 v6 = some o) : Bg L xs 89 45 [(0, .int v0), (1, .int v1), (2, .int v2), (3, .int v3), (4, .int v4), (5, .int v5), (6, .int v6)] [] lay h R := by
  refine seg_Bg (pc' := (if v6 < v3 then 51 else 95)) (lv' := [(0, .int v0), (1, .int v1), (2, .int v2), (3, .int v3), (4, .int v4), (5, .int v5), (6, .int v6)]) (st' := []) (lay' := lay) (h' := h) 3 rfl ?_
  refine pc_ite e (fun e => ?_) (fun e => ?_)
  · refine seg_Bg (pc' := 54) (lv' := [(0, .int v0), (1, .int v1), (2, .int v2), (3, .int v3), (4, .int v4), (5, .int v5), (6, .int v6)]) (st' := [.int v5, .int v2]) (lay' := lay) (h' := h) 2 rfl ?_
    refine call_Bg (a := 90) (la := [(0, .int v2), (1, .int v5)]) (np := 57) (lv' := [(0, .int v0), (1, .int v1), (2, .int v2), (3, .int v3), (4, .int v4), (5, .int v5), (6, .int v6)]) (rest := []) (res := fun r => ([.int r], lay, h)) rfl e (fun r e => BJre_has L xs v2 v5 lay h r e) (fun c2 e => ?_)
    show Bg L xs 89 57 [(0, .int v0), (1, .int v1), (2, .int v2), (3, .int v3), (4, .int v4), (5, .int v5), (6, .int v6)] [.int c2] lay h R
    refine seg_Bg (pc' := (if c2 = 0 then 95 else 60)) (lv' := [(0, .int v0), (1, .int v1), (2, .int v2), (3, .int v3), (4, .int v4), (5, .int v5), (6, .int v6)]) (st' := []) (lay' := lay) (h' := h) 1 rfl ?_
    refine pc_ite e (fun e => ?_) (fun e => ?_)
    · exact hE v6 (Option.some.inj e).symm
    · refine seg_Bg (pc' := 63) (lv' := [(0, .int v0), (1, .int v1), (2, .int v2), (3, .int v3), (4, .int v4), (5, .int v5), (6, .int v6)]) (st' := [.int v6, .int v2]) (lay' := lay) (h' := h) 2 rfl ?_
      refine call_Bg (a := 90) (la := [(0, .int v2), (1, .int v6)]) (np := 66) (lv' := [(0, .int v0), (1, .int v1), (2, .int v2), (3, .int v3), (4, .int v4), (5, .int v5), (6, .int v6)]) (rest := []) (res := fun r => ([.int r], lay, h)) rfl e (fun r e => BJre_has L xs v2 v6 lay h r e) (fun c3 e => ?_)
      show Bg L xs 89 66 [(0, .int v0), (1, .int v1), (2, .int v2), (3, .int v3), (4, .int v4), (5, .int v5), (6, .int v6)] [.int c3] lay h R
      refine seg_Bg (pc' := (if c3 = 0 then 89 else 69)) (lv' := [(0, .int v0), (1, .int v1), (2, .int v2), (3, .int v3), (4, .int v4), (5, .int v5), (6, .int v6)]) (st' := []) (lay' := lay) (h' := h) 1 rfl ?_
      refine pc_ite e (fun e => ?_) (fun e => ?_)
      · refine seg_Bg (pc' := 45) (lv' := [(0, .int v0), (1, .int v1), (2, .int v2), (3, .int v3), (4, .int v4), (5, .int v5), (6, .int (v6 + 1))]) (st' := []) (lay' := lay) (h' := h) 2 rfl ?_
        exact hH (v6 + 1) (Option.some.inj e).symm
      · refine seg_Bg (pc' := 78) (lv' := [(0, .int v0), (1, .int v1), (2, .int v2), (3, .int v3), (4, .int v4), (5, .int v5), (6, .int v6)]) (st' := [.int v1, .int v6, .int v5, .int v4, .int v0, .int v2]) (lay' := lay) (h' := h) 6 rfl ?_
        refine call_Bg (a := 9) (la := [(0, .int v0), (1, .int v4), (2, .int v5), (3, .int v6), (4, .int v1)]) (np := 81) (lv' := [(0, .int v0), (1, .int v1), (2, .int v2), (3, .int v3), (4, .int v4), (5, .int v5), (6, .int v6)]) (rest := [.int v2]) (res := fun r => ([.int r], lay, h)) rfl e (fun r e => BJco_putOnBits L xs v0 v4 v5 v6 v1 lay h r e) (fun c4 e => ?_)
        show Bg L xs 89 81 [(0, .int v0), (1, .int v1), (2, .int v2), (3, .int v3), (4, .int v4), (5, .int v5), (6, .int v6)] [.int c4, .int v2] lay h R
        refine call_Bg (a := 90) (la := [(0, .int v2), (1, .int c4)]) (np := 84) (lv' := [(0, .int v0), (1, .int v1), (2, .int v2), (3, .int v3), (4, .int v4), (5, .int v5), (6, .int v6)]) (rest := []) (res := fun r => ([.int r], lay, h)) rfl e (fun r e => BJre_has L xs v2 c4 lay h r e) (fun c5 e => ?_)
        show Bg L xs 89 84 [(0, .int v0), (1, .int v1), (2, .int v2), (3, .int v3), (4, .int v4), (5, .int v5), (6, .int v6)] [.int c5] lay h R
        refine seg_Bg (pc' := (if c5 = 0 then 87 else 89)) (lv' := [(0, .int v0), (1, .int v1), (2, .int v2), (3, .int v3), (4, .int v4), (5, .int v5), (6, .int v6)]) (st' := []) (lay' := lay) (h' := h) 1 rfl ?_
        refine pc_ite e (fun e => ?_) (fun e => ?_)
        · refine seg_Bg (pc' := 88) (lv' := [(0, .int v0), (1, .int v1), (2, .int v2), (3, .int v3), (4, .int v4), (5, .int v5), (6, .int v6)]) (st' := [.int 0]) (lay' := lay) (h' := h) 1 rfl ?_
          rw [hR 0 (Option.some.inj e).symm]; exact ret_Bg rfl
        · refine seg_Bg (pc' := 45) (lv' := [(0, .int v0), (1, .int v1), (2, .int v2), (3, .int v3), (4, .int v4), (5, .int v5), (6, .int (v6 + 1))]) (st' := []) (lay' := lay) (h' := h) 2 rfl ?_
          exact hH (v6 + 1) (Option.some.inj e).symm
  · exact hE v6 (Option.some.inj e).symm
theorem BJre_isKeptBy_L45 (L : Nat) (xs : Nat → Int32) (v0 v1 v2 v3 v4 v5 : Int32) (lay : Lay) (h : Hp) (R : List Value × Lay × Hp) (C : ((Int32) ⊕ (Int32)) → Prop) (hE : ∀ t : Int32, C (.inl t) → Bg L xs 89 95 [(0, .int v0), (1, .int v1), (2, .int v2), (3, .int v3), (4, .int v4), (5, .int v5), (6, .int t)] [] lay h R) (hR : ∀ r : Int32, C (.inr r) → R = ([.int r], lay, h)) (n : Nat) (s : Int32) (o : ((Int32) ⊕ (Int32))) (e : loopN n (fun s => Jre_isKeptBy_L45 v0 v1 v2 v3 v4 v5 s) s = some o) (hC : C o) : Bg L xs 89 45 [(0, .int v0), (1, .int v1), (2, .int v2), (3, .int v3), (4, .int v4), (5, .int v5), (6, .int s)] [] lay h R := by
  refine loop_B (fun s => Jre_isKeptBy_L45 v0 v1 v2 v3 v4 v5 s) (fun s : Int32 => Bg L xs 89 45 [(0, .int v0), (1, .int v1), (2, .int v2), (3, .int v3), (4, .int v4), (5, .int v5), (6, .int s)] [] lay h R) C (fun s o e => ?_) n s o e hC
  intro hK
  refine BJre_isKeptBy_L45_s L xs v0 v1 v2 v3 v4 v5 lay h R s o (fun s q => by subst q; exact hK) (fun t q => by subst q; exact hE t hK) (fun r q => by subst q; exact hR r hK) e
set_option maxRecDepth 100000 in
theorem BJre_isKeptBy_L27_s (L : Nat) (xs : Nat → Int32) (v0 v1 v2 v3 v4 : Int32) (lay : Lay) (h : Hp) (R : List Value × Lay × Hp) (v5 : Int32) (o : ((Int32) ⊕ ((Int32) ⊕ (Int32)))) (hH : ∀ s : Int32, o = .inl s → Bg L xs 89 27 [(0, .int v0), (1, .int v1), (2, .int v2), (3, .int v3), (4, .int v4), (5, .int s)] [] lay h R) (hE : ∀ t : Int32, o = .inr (.inl t) → Bg L xs 89 101 [(0, .int v0), (1, .int v1), (2, .int v2), (3, .int v3), (4, .int v4), (5, .int t)] [] lay h R) (hR : ∀ r : Int32, o = .inr (.inr r) → R = ([.int r], lay, h)) (e : Jre_isKeptBy_L27 v0 v1 v2 v3 v4 v5 = some o) : Bg L xs 89 27 [(0, .int v0), (1, .int v1), (2, .int v2), (3, .int v3), (4, .int v4), (5, .int v5)] [] lay h R := by
  refine seg_Bg (pc' := (if v5 < v3 then 33 else 101)) (lv' := [(0, .int v0), (1, .int v1), (2, .int v2), (3, .int v3), (4, .int v4), (5, .int v5)]) (st' := []) (lay' := lay) (h' := h) 3 rfl ?_
  refine pc_ite e (fun e => ?_) (fun e => ?_)
  · refine seg_Bg (pc' := 36) (lv' := [(0, .int v0), (1, .int v1), (2, .int v2), (3, .int v3), (4, .int v4), (5, .int v5)]) (st' := [.int v4, .int v2]) (lay' := lay) (h' := h) 2 rfl ?_
    refine call_Bg (a := 90) (la := [(0, .int v2), (1, .int v4)]) (np := 39) (lv' := [(0, .int v0), (1, .int v1), (2, .int v2), (3, .int v3), (4, .int v4), (5, .int v5)]) (rest := []) (res := fun r => ([.int r], lay, h)) rfl e (fun r e => BJre_has L xs v2 v4 lay h r e) (fun c1 e => ?_)
    show Bg L xs 89 39 [(0, .int v0), (1, .int v1), (2, .int v2), (3, .int v3), (4, .int v4), (5, .int v5)] [.int c1] lay h R
    refine seg_Bg (pc' := (if c1 = 0 then 101 else 42)) (lv' := [(0, .int v0), (1, .int v1), (2, .int v2), (3, .int v3), (4, .int v4), (5, .int v5)]) (st' := []) (lay' := lay) (h' := h) 1 rfl ?_
    refine pc_ite e (fun e => ?_) (fun e => ?_)
    · exact hE v5 (Option.some.inj e).symm
    · refine seg_Bg (pc' := 45) (lv' := [(0, .int v0), (1, .int v1), (2, .int v2), (3, .int v3), (4, .int v4), (5, .int v5), (6, .int 0)]) (st' := []) (lay' := lay) (h' := h) 2 rfl ?_
      obtain ⟨t6o, et6o, e⟩ := bd_s e
      refine BJre_isKeptBy_L45 L xs v0 v1 v2 v3 v4 v5 lay h R (fun (t6x : (Int32) ⊕ (Int32)) => (sm t6x (fun t6 => some (.inl (v5 + 1))) (fun r6 => some (.inr (.inr r6)))) = some o) (fun t6 e => ?_) (fun r6 e => ?_) 1000000 0 _ et6o e
      · refine seg_Bg (pc' := 27) (lv' := [(0, .int v0), (1, .int v1), (2, .int v2), (3, .int v3), (4, .int v4), (5, .int (v5 + 1)), (6, .int t6)]) (st' := []) (lay' := lay) (h' := h) 2 rfl ?_
        refine kp_Bg (lv' := [(0, .int v0), (1, .int v1), (2, .int v2), (3, .int v3), (4, .int v4), (5, .int (v5 + 1))]) rfl rfl ?_
        exact hH (v5 + 1) (Option.some.inj e).symm
      · exact hR r6 (Option.some.inj e).symm
  · exact hE v5 (Option.some.inj e).symm
theorem BJre_isKeptBy_L27 (L : Nat) (xs : Nat → Int32) (v0 v1 v2 v3 v4 : Int32) (lay : Lay) (h : Hp) (R : List Value × Lay × Hp) (C : ((Int32) ⊕ (Int32)) → Prop) (hE : ∀ t : Int32, C (.inl t) → Bg L xs 89 101 [(0, .int v0), (1, .int v1), (2, .int v2), (3, .int v3), (4, .int v4), (5, .int t)] [] lay h R) (hR : ∀ r : Int32, C (.inr r) → R = ([.int r], lay, h)) (n : Nat) (s : Int32) (o : ((Int32) ⊕ (Int32))) (e : loopN n (fun s => Jre_isKeptBy_L27 v0 v1 v2 v3 v4 s) s = some o) (hC : C o) : Bg L xs 89 27 [(0, .int v0), (1, .int v1), (2, .int v2), (3, .int v3), (4, .int v4), (5, .int s)] [] lay h R := by
  refine loop_B (fun s => Jre_isKeptBy_L27 v0 v1 v2 v3 v4 s) (fun s : Int32 => Bg L xs 89 27 [(0, .int v0), (1, .int v1), (2, .int v2), (3, .int v3), (4, .int v4), (5, .int s)] [] lay h R) C (fun s o e => ?_) n s o e hC
  intro hK
  refine BJre_isKeptBy_L27_s L xs v0 v1 v2 v3 v4 lay h R s o (fun s q => by subst q; exact hK) (fun t q => by subst q; exact hE t hK) (fun r q => by subst q; exact hR r hK) e
set_option maxRecDepth 100000 in
theorem BJre_isKeptBy_L18_s (L : Nat) (xs : Nat → Int32) (v0 v1 v2 v3 : Int32) (lay : Lay) (h : Hp) (R : List Value × Lay × Hp) (v4 : Int32) (o : ((Int32) ⊕ ((Int32) ⊕ (Int32)))) (hH : ∀ s : Int32, o = .inl s → Bg L xs 89 18 [(0, .int v0), (1, .int v1), (2, .int v2), (3, .int v3), (4, .int s)] [] lay h R) (hE : ∀ t : Int32, o = .inr (.inl t) → Bg L xs 89 107 [(0, .int v0), (1, .int v1), (2, .int v2), (3, .int v3), (4, .int t)] [] lay h R) (hR : ∀ r : Int32, o = .inr (.inr r) → R = ([.int r], lay, h)) (e : Jre_isKeptBy_L18 v0 v1 v2 v3 v4 = some o) : Bg L xs 89 18 [(0, .int v0), (1, .int v1), (2, .int v2), (3, .int v3), (4, .int v4)] [] lay h R := by
  refine seg_Bg (pc' := (if v4 < v3 then 24 else 107)) (lv' := [(0, .int v0), (1, .int v1), (2, .int v2), (3, .int v3), (4, .int v4)]) (st' := []) (lay' := lay) (h' := h) 3 rfl ?_
  refine pc_ite e (fun e => ?_) (fun e => ?_)
  · refine seg_Bg (pc' := 27) (lv' := [(0, .int v0), (1, .int v1), (2, .int v2), (3, .int v3), (4, .int v4), (5, .int 0)]) (st' := []) (lay' := lay) (h' := h) 2 rfl ?_
    obtain ⟨t7o, et7o, e⟩ := bd_s e
    refine BJre_isKeptBy_L27 L xs v0 v1 v2 v3 v4 lay h R (fun (t7x : (Int32) ⊕ (Int32)) => (sm t7x (fun t7 => some (.inl (v4 + 1))) (fun r7 => some (.inr (.inr r7)))) = some o) (fun t7 e => ?_) (fun r7 e => ?_) 1000000 0 _ et7o e
    · refine seg_Bg (pc' := 18) (lv' := [(0, .int v0), (1, .int v1), (2, .int v2), (3, .int v3), (4, .int (v4 + 1)), (5, .int t7)]) (st' := []) (lay' := lay) (h' := h) 2 rfl ?_
      refine kp_Bg (lv' := [(0, .int v0), (1, .int v1), (2, .int v2), (3, .int v3), (4, .int (v4 + 1))]) rfl rfl ?_
      exact hH (v4 + 1) (Option.some.inj e).symm
    · exact hR r7 (Option.some.inj e).symm
  · exact hE v4 (Option.some.inj e).symm
theorem BJre_isKeptBy_L18 (L : Nat) (xs : Nat → Int32) (v0 v1 v2 v3 : Int32) (lay : Lay) (h : Hp) (R : List Value × Lay × Hp) (C : ((Int32) ⊕ (Int32)) → Prop) (hE : ∀ t : Int32, C (.inl t) → Bg L xs 89 107 [(0, .int v0), (1, .int v1), (2, .int v2), (3, .int v3), (4, .int t)] [] lay h R) (hR : ∀ r : Int32, C (.inr r) → R = ([.int r], lay, h)) (n : Nat) (s : Int32) (o : ((Int32) ⊕ (Int32))) (e : loopN n (fun s => Jre_isKeptBy_L18 v0 v1 v2 v3 s) s = some o) (hC : C o) : Bg L xs 89 18 [(0, .int v0), (1, .int v1), (2, .int v2), (3, .int v3), (4, .int s)] [] lay h R := by
  refine loop_B (fun s => Jre_isKeptBy_L18 v0 v1 v2 v3 s) (fun s : Int32 => Bg L xs 89 18 [(0, .int v0), (1, .int v1), (2, .int v2), (3, .int v3), (4, .int s)] [] lay h R) C (fun s o e => ?_) n s o e hC
  intro hK
  refine BJre_isKeptBy_L18_s L xs v0 v1 v2 v3 lay h R s o (fun s q => by subst q; exact hK) (fun t q => by subst q; exact hE t hK) (fun r q => by subst q; exact hR r hK) e
set_option maxRecDepth 100000 in
theorem BJre_isKeptBy (L : Nat) (xs : Nat → Int32) (v0 : Int32) (v1 : Int32) (v2 : Int32) (lay : Lay) (h : Hp) (o : Int32) (e : Jre_isKeptBy v0 v1 v2 = some o) : Bg L xs 89 0 [(0, .int v0), (1, .int v1), (2, .int v2)] [] lay h ([.int o], lay, h) := by
  obtain ⟨R, hR⟩ : ∃ R : List Value × Lay × Hp, R = ([.int o], lay, h) := ⟨_, rfl⟩
  rw [← hR]
  refine seg_Bg (pc' := (if v2 = (((1 : Int32) <<< (((1 : Int32) <<< (v1 &&& 31) : Int32) &&& 31) : Int32) - (1 : Int32)) then 13 else 15)) (lv' := [(0, .int v0), (1, .int v1), (2, .int v2), (3, .int ((1 : Int32) <<< (v1 &&& 31) : Int32))]) (st' := []) (lay' := lay) (h' := h) 11 rfl ?_
  refine pc_ite e (fun e => ?_) (fun e => ?_)
  · refine seg_Bg (pc' := 14) (lv' := [(0, .int v0), (1, .int v1), (2, .int v2), (3, .int ((1 : Int32) <<< (v1 &&& 31) : Int32))]) (st' := [.int 1]) (lay' := lay) (h' := h) 1 rfl ?_
    rw [hR, ← Option.some.inj e]; exact ret_Bg rfl
  · refine seg_Bg (pc' := 18) (lv' := [(0, .int v0), (1, .int v1), (2, .int v2), (3, .int ((1 : Int32) <<< (v1 &&& 31) : Int32)), (4, .int 0)]) (st' := []) (lay' := lay) (h' := h) 2 rfl ?_
    obtain ⟨t8o, et8o, e⟩ := bd_s e
    refine BJre_isKeptBy_L18 L xs v0 v1 v2 ((1 : Int32) <<< (v1 &&& 31) : Int32) lay h R (fun (t8x : (Int32) ⊕ (Int32)) => (sm t8x (fun t8 => some 1) (fun r8 => some r8)) = some o) (fun t8 e => ?_) (fun r8 e => ?_) 1000000 0 _ et8o e
    · refine seg_Bg (pc' := 108) (lv' := [(0, .int v0), (1, .int v1), (2, .int v2), (3, .int ((1 : Int32) <<< (v1 &&& 31) : Int32)), (4, .int t8)]) (st' := [.int 1]) (lay' := lay) (h' := h) 1 rfl ?_
      rw [hR, ← Option.some.inj e]; exact ret_Bg rfl
    · rw [hR]; exact congrArg (fun r => (([.int r], lay, h) : List Value × Lay × Hp)) (Option.some.inj e).symm

set_option maxRecDepth 100000 in
theorem BJyn_relation_L31_s (L : Nat) (xs : Nat → Int32) (v1 v2 v3 : Int32) (h : Hp) (R : List Value × Lay × Hp) (v4 v5 v6 : Int32) (o : ((Int32 × Int32 × Int32) ⊕ (Int32 × Int32 × Int32))) (hH : ∀ s : Int32 × Int32 × Int32, o = .inl s → Bg L xs 145 31 [(0, .ref 0), (1, .int v1), (2, .int v2), (3, .int v3), (4, .int s.1), (5, .int s.2.1), (6, .int s.2.2)] [] LY88 h R) (hE : ∀ t : Int32 × Int32 × Int32, o = .inr t → Bg L xs 145 72 [(0, .ref 0), (1, .int v1), (2, .int v2), (3, .int v3), (4, .int t.1), (5, .int t.2.1), (6, .int t.2.2)] [] LY88 h R) (e : Jyn_relation_L31 v1 v2 v3 h v4 v5 v6 = some o) : Bg L xs 145 31 [(0, .ref 0), (1, .int v1), (2, .int v2), (3, .int v3), (4, .int v4), (5, .int v5), (6, .int v6)] [] LY88 h R := by
  refine seg_Bg (pc' := (if v6 < 256 then 39 else 72)) (lv' := [(0, .ref 0), (1, .int v1), (2, .int v2), (3, .int v3), (4, .int v4), (5, .int v5), (6, .int v6)]) (st' := []) (lay' := LY88) (h' := h) 3 rfl ?_
  refine pc_ite e (fun e => ?_) (fun e => ?_)
  · refine seg_Bg (pc' := 43) (lv' := [(0, .ref 0), (1, .int v1), (2, .int v2), (3, .int v3), (4, .int v4), (5, .int v5), (6, .int v6)]) (st' := [.int v2, .int v1, .int v6]) (lay' := LY88) (h' := h) 3 rfl ?_
    refine call_Bg (a := 89) (la := [(0, .int v6), (1, .int v1), (2, .int v2)]) (np := 46) (lv' := [(0, .ref 0), (1, .int v1), (2, .int v2), (3, .int v3), (4, .int v4), (5, .int v5), (6, .int v6)]) (rest := []) (res := fun r => ([.int r], LY88, h)) rfl e (fun r e => BJre_isKeptBy L xs v6 v1 v2 LY88 h r e) (fun c2 e => ?_)
    show Bg L xs 145 46 [(0, .ref 0), (1, .int v1), (2, .int v2), (3, .int v3), (4, .int v4), (5, .int v5), (6, .int v6)] [.int c2] LY88 h R
    refine seg_Bg (pc' := (if c2 = 0 then 66 else 49)) (lv' := [(0, .ref 0), (1, .int v1), (2, .int v2), (3, .int v3), (4, .int v4), (5, .int v5), (6, .int v6)]) (st' := []) (lay' := LY88) (h' := h) 1 rfl ?_
    refine pc_ite e (fun e => ?_) (fun e => ?_)
    · refine seg_Bg (pc' := 31) (lv' := [(0, .ref 0), (1, .int v1), (2, .int v2), (3, .int v3), (4, .int v4), (5, .int v5), (6, .int (v6 + 1))]) (st' := []) (lay' := LY88) (h' := h) 2 rfl ?_
      exact hH (v4, v5, v6 + 1) (Option.some.inj e).symm
    · refine seg_Bg (pc' := 60) (lv' := [(0, .ref 0), (1, .int v1), (2, .int v2), (3, .int v3), (4, .int (v4 + 1)), (5, .int v5), (6, .int v6)]) (st' := [.int v6, .ref 4, .int v5]) (lay' := LY88) (h' := h) 5 rfl ?_
      refine call_Bg (a := 65) (la := [(0, .ref 4), (1, .int v6)]) (np := 63) (lv' := [(0, .ref 0), (1, .int v1), (2, .int v2), (3, .int v3), (4, .int (v4 + 1)), (5, .int v5), (6, .int v6)]) (rest := [.int v5]) (res := fun r => ([.int r], LY88, h)) rfl e (fun r e => BJpl_traitsOf L xs v6 h r e) (fun c3 e => ?_)
      show Bg L xs 145 63 [(0, .ref 0), (1, .int v1), (2, .int v2), (3, .int v3), (4, .int (v4 + 1)), (5, .int v5), (6, .int v6)] [.int c3, .int v5] LY88 h R
      refine seg_Bg (pc' := 31) (lv' := [(0, .ref 0), (1, .int v1), (2, .int v2), (3, .int v3), (4, .int (v4 + 1)), (5, .int (v5 &&& c3)), (6, .int (v6 + 1))]) (st' := []) (lay' := LY88) (h' := h) 4 rfl ?_
      exact hH (v4 + 1, v5 &&& c3, v6 + 1) (Option.some.inj e).symm
  · exact hE (v4, v5, v6) (Option.some.inj e).symm
theorem BJyn_relation_L31 (L : Nat) (xs : Nat → Int32) (v1 v2 v3 : Int32) (h : Hp) (R : List Value × Lay × Hp) (C : (Int32 × Int32 × Int32) → Prop) (hE : ∀ t : Int32 × Int32 × Int32, C t → Bg L xs 145 72 [(0, .ref 0), (1, .int v1), (2, .int v2), (3, .int v3), (4, .int t.1), (5, .int t.2.1), (6, .int t.2.2)] [] LY88 h R) (n : Nat) (s : Int32 × Int32 × Int32) (o : (Int32 × Int32 × Int32)) (e : loopN n (fun s => Jyn_relation_L31 v1 v2 v3 h s.1 s.2.1 s.2.2) s = some o) (hC : C o) : Bg L xs 145 31 [(0, .ref 0), (1, .int v1), (2, .int v2), (3, .int v3), (4, .int s.1), (5, .int s.2.1), (6, .int s.2.2)] [] LY88 h R := by
  refine loop_B (fun s => Jyn_relation_L31 v1 v2 v3 h s.1 s.2.1 s.2.2) (fun s : Int32 × Int32 × Int32 => Bg L xs 145 31 [(0, .ref 0), (1, .int v1), (2, .int v2), (3, .int v3), (4, .int s.1), (5, .int s.2.1), (6, .int s.2.2)] [] LY88 h R) C (fun s o e => ?_) n s o e hC
  intro hK
  refine BJyn_relation_L31_s L xs v1 v2 v3 h R s.1 s.2.1 s.2.2 o (fun s q => by subst q; exact hK) (fun t q => by subst q; exact hE t hK) e
set_option maxRecDepth 100000 in
theorem BJyn_relation (L : Nat) (xs : Nat → Int32) (v1 : Int32) (v2 : Int32) (v3 : Int32) (h : Hp) (o : Int32) (e : Jyn_relation v1 v2 v3 h = some o) : Bg L xs 145 0 [(0, .ref 0), (1, .int v1), (2, .int v2), (3, .int v3)] [] LY88 h ([.int o], LY88, h) := by
  obtain ⟨R, hR⟩ : ∃ R : List Value × Lay × Hp, R = ([.int o], LY88, h) := ⟨_, rfl⟩
  rw [← hR]
  refine seg_Bg (pc' := 2) (lv' := [(0, .ref 0), (1, .int v1), (2, .int v2), (3, .int v3)]) (st' := [.int v2, .int v1]) (lay' := LY88) (h' := h) 2 rfl ?_
  refine call_Bg (a := 88) (la := [(0, .int v1), (1, .int v2)]) (np := 5) (lv' := [(0, .ref 0), (1, .int v1), (2, .int v2), (3, .int v3)]) (rest := []) (res := fun r => ([.int r], LY88, h)) rfl e (fun r e => BJre_isRelation L xs v1 v2 LY88 h r e) (fun c1 e => ?_)
  show Bg L xs 145 5 [(0, .ref 0), (1, .int v1), (2, .int v2), (3, .int v3)] [.int c1] LY88 h R
  refine seg_Bg (pc' := (if c1 = 0 then 17 else 8)) (lv' := [(0, .ref 0), (1, .int v1), (2, .int v2), (3, .int v3)]) (st' := []) (lay' := LY88) (h' := h) 1 rfl ?_
  refine pc_ite e (fun e => ?_) (fun e => ?_)
  · refine seg_Bg (pc' := 19) (lv' := [(0, .ref 0), (1, .int v1), (2, .int v2), (3, .int v3)]) (st' := [.int (-1000000002)]) (lay' := LY88) (h' := h) 1 rfl ?_
    rw [hR, ← Option.some.inj e]; exact ret_Bg rfl
  · refine seg_Bg (pc' := (if v3 < 0 then 17 else 12)) (lv' := [(0, .ref 0), (1, .int v1), (2, .int v2), (3, .int v3)]) (st' := []) (lay' := LY88) (h' := h) 2 rfl ?_
    refine pc_ite e (fun e => ?_) (fun e => ?_)
    · refine seg_Bg (pc' := 19) (lv' := [(0, .ref 0), (1, .int v1), (2, .int v2), (3, .int v3)]) (st' := [.int (-1000000002)]) (lay' := LY88) (h' := h) 1 rfl ?_
      rw [hR, ← Option.some.inj e]; exact ret_Bg rfl
    · refine seg_Bg (pc' := (if 1 < v3 then 17 else 20)) (lv' := [(0, .ref 0), (1, .int v1), (2, .int v2), (3, .int v3)]) (st' := []) (lay' := LY88) (h' := h) 3 rfl ?_
      refine pc_ite e (fun e => ?_) (fun e => ?_)
      · refine seg_Bg (pc' := 19) (lv' := [(0, .ref 0), (1, .int v1), (2, .int v2), (3, .int v3)]) (st' := [.int (-1000000002)]) (lay' := LY88) (h' := h) 1 rfl ?_
        rw [hR, ← Option.some.inj e]; exact ret_Bg rfl
      · refine seg_Bg (pc' := 31) (lv' := [(0, .ref 0), (1, .int v1), (2, .int v2), (3, .int v3), (4, .int 0), (5, .int 4095), (6, .int 0)]) (st' := []) (lay' := LY88) (h' := h) 6 rfl ?_
        obtain ⟨t4o, et4o, e⟩ := bd_s e
        refine BJyn_relation_L31 L xs v1 v2 v3 h R (fun (t4 : Int32 × Int32 × Int32) => (if v3 = 0 then some t4.1 else bd (Jpl_numberOf t4.2.1 h) fun c5 => some c5) = some o) (fun t4 e => ?_) 1000000 (0, 4095, 0) _ et4o e
        refine seg_Bg (pc' := (if v3 = 0 then 76 else 81)) (lv' := [(0, .ref 0), (1, .int v1), (2, .int v2), (3, .int v3), (4, .int t4.1), (5, .int t4.2.1), (6, .int t4.2.2)]) (st' := []) (lay' := LY88) (h' := h) 2 rfl ?_
        refine pc_ite e (fun e => ?_) (fun e => ?_)
        · refine seg_Bg (pc' := 90) (lv' := [(0, .ref 0), (1, .int v1), (2, .int v2), (3, .int v3), (4, .int t4.1), (5, .int t4.2.1), (6, .int t4.2.2)]) (st' := [.int t4.1]) (lay' := LY88) (h' := h) 2 rfl ?_
          rw [hR, ← Option.some.inj e]; exact ret_Bg rfl
        · refine seg_Bg (pc' := 87) (lv' := [(0, .ref 0), (1, .int v1), (2, .int v2), (3, .int v3), (4, .int t4.1), (5, .int t4.2.1), (6, .int t4.2.2)]) (st' := [.int t4.2.1, .ref 4]) (lay' := LY88) (h' := h) 3 rfl ?_
          refine call_Bg (a := 67) (la := [(0, .ref 4), (1, .int t4.2.1)]) (np := 90) (lv' := [(0, .ref 0), (1, .int v1), (2, .int v2), (3, .int v3), (4, .int t4.1), (5, .int t4.2.1), (6, .int t4.2.2)]) (rest := []) (res := fun r => ([.int r], LY88, h)) rfl e (fun r e => BJpl_numberOf L xs t4.2.1 h r e) (fun c5 e => ?_)
          show Bg L xs 145 90 [(0, .ref 0), (1, .int v1), (2, .int v2), (3, .int v3), (4, .int t4.1), (5, .int t4.2.1), (6, .int t4.2.2)] [.int c5] LY88 h R
          rw [hR, ← Option.some.inj e]; exact ret_Bg rfl

set_option maxRecDepth 100000 in
theorem BJm_isRelation (L : Nat) (xs : Nat → Int32) (v0 : Int32) (v1 : Int32) (lay : Lay) (h : Hp) (o : Int32) (e : Jm_isRelation v0 v1 = some o) : Bg L xs 198 0 [(0, .int v0), (1, .int v1)] [] lay h ([.int o], lay, h) := by
  obtain ⟨R, hR⟩ : ∃ R : List Value × Lay × Hp, R = ([.int o], lay, h) := ⟨_, rfl⟩
  rw [← hR]
  refine seg_Bg (pc' := 6) (lv' := [(0, .int v0), (1, .int v1)]) (st' := [.long 3, .long 1, .long (Int32.toInt64 v0)]) (lay' := lay) (h' := h) 4 rfl ?_
  refine call_Bg (a := 166) (la := [(0, .long (Int32.toInt64 v0)), (2, .long 1), (4, .long 3)]) (np := 9) (lv' := [(0, .int v0), (1, .int v1)]) (rest := []) (res := fun r => ([.int r], lay, h)) rfl e (fun r e => BJm_in L xs (Int32.toInt64 v0) 1 3 lay h r e) (fun c1 e => ?_)
  show Bg L xs 198 9 [(0, .int v0), (1, .int v1)] [.int c1] lay h R
  refine seg_Bg (pc' := (if c1 = 0 then 33 else 12)) (lv' := [(0, .int v0), (1, .int v1)]) (st' := []) (lay' := lay) (h' := h) 1 rfl ?_
  refine pc_ite e (fun e => ?_) (fun e => ?_)
  · refine seg_Bg (pc' := 34) (lv' := [(0, .int v0), (1, .int v1)]) (st' := [.int 0]) (lay' := lay) (h' := h) 1 rfl ?_
    rw [hR, ← Option.some.inj e]; exact ret_Bg rfl
  · refine seg_Bg (pc' := 23) (lv' := [(0, .int v0), (1, .int v1)]) (st' := [.long (Int32.toInt64 (((1 : Int32) <<< (((1 : Int32) <<< (v0 &&& 31) : Int32) &&& 31) : Int32) - (1 : Int32))), .long 0, .long (Int32.toInt64 v1)]) (lay' := lay) (h' := h) 11 rfl ?_
    refine call_Bg (a := 166) (la := [(0, .long (Int32.toInt64 v1)), (2, .long 0), (4, .long (Int32.toInt64 (((1 : Int32) <<< (((1 : Int32) <<< (v0 &&& 31) : Int32) &&& 31) : Int32) - (1 : Int32))))]) (np := 26) (lv' := [(0, .int v0), (1, .int v1)]) (rest := []) (res := fun r => ([.int r], lay, h)) rfl e (fun r e => BJm_in L xs (Int32.toInt64 v1) 0 (Int32.toInt64 (((1 : Int32) <<< (((1 : Int32) <<< (v0 &&& 31) : Int32) &&& 31) : Int32) - (1 : Int32))) lay h r e) (fun c2 e => ?_)
    show Bg L xs 198 26 [(0, .int v0), (1, .int v1)] [.int c2] lay h R
    refine seg_Bg (pc' := (if c2 = 0 then 33 else 29)) (lv' := [(0, .int v0), (1, .int v1)]) (st' := []) (lay' := lay) (h' := h) 1 rfl ?_
    refine pc_ite e (fun e => ?_) (fun e => ?_)
    · refine seg_Bg (pc' := 34) (lv' := [(0, .int v0), (1, .int v1)]) (st' := [.int 0]) (lay' := lay) (h' := h) 1 rfl ?_
      rw [hR, ← Option.some.inj e]; exact ret_Bg rfl
    · refine seg_Bg (pc' := 34) (lv' := [(0, .int v0), (1, .int v1)]) (st' := [.int 1]) (lay' := lay) (h' := h) 2 rfl ?_
      rw [hR, ← Option.some.inj e]; exact ret_Bg rfl

set_option maxRecDepth 100000 in
theorem BJm_keepsRow_L56_s (L : Nat) (xs : Nat → Int32) (v0 v1 v2 v3 v4 v5 v6 : Int32) (lay : Lay) (h : Hp) (R : List Value × Lay × Hp) (v7 v8 : Int32) (o : ((Int32 × Int32) ⊕ (Int32 × Int32))) (hH : ∀ s : Int32 × Int32, o = .inl s → Bg L xs 196 56 [(0, .int v0), (1, .int v1), (2, .int v2), (3, .int v3), (4, .int v4), (5, .int v5), (6, .int v6), (7, .int s.1), (8, .int s.2)] [] lay h R) (hE : ∀ t : Int32 × Int32, o = .inr t → Bg L xs 196 107 [(0, .int v0), (1, .int v1), (2, .int v2), (3, .int v3), (4, .int v4), (5, .int v5), (6, .int v6), (7, .int t.1), (8, .int t.2)] [] lay h R) (e : Jm_keepsRow_L56 v0 v1 v2 v3 v4 v5 v6 v7 v8 = some o) : Bg L xs 196 56 [(0, .int v0), (1, .int v1), (2, .int v2), (3, .int v3), (4, .int v4), (5, .int v5), (6, .int v6), (7, .int v7), (8, .int v8)] [] lay h R := by
  refine seg_Bg (pc' := (if v8 < v1 then 62 else 107)) (lv' := [(0, .int v0), (1, .int v1), (2, .int v2), (3, .int v3), (4, .int v4), (5, .int v5), (6, .int v6), (7, .int v7), (8, .int v8)]) (st' := []) (lay' := lay) (h' := h) 3 rfl ?_
  refine pc_ite e (fun e => ?_) (fun e => ?_)
  · refine seg_Bg (pc' := 92) (lv' := [(0, .int v0), (1, .int v1), (2, .int v2), (3, .int v3), (4, .int v4), (5, .int v5), (6, .int v6), (7, .int v7), (8, .int v8)]) (st' := [.int ((((4 : Int32) * ((v4 >>> (v8 &&& 31) : Int32) &&& (1 : Int32))) + ((2 : Int32) * ((v5 >>> (v8 &&& 31) : Int32) &&& (1 : Int32)))) + ((v6 >>> (v8 &&& 31) : Int32) &&& (1 : Int32))), .int v0, .int v7]) (lay' := lay) (h' := h) 23 rfl ?_
    refine call_Bg (a := 170) (la := [(0, .int v0), (1, .int ((((4 : Int32) * ((v4 >>> (v8 &&& 31) : Int32) &&& (1 : Int32))) + ((2 : Int32) * ((v5 >>> (v8 &&& 31) : Int32) &&& (1 : Int32)))) + ((v6 >>> (v8 &&& 31) : Int32) &&& (1 : Int32))))]) (np := 95) (lv' := [(0, .int v0), (1, .int v1), (2, .int v2), (3, .int v3), (4, .int v4), (5, .int v5), (6, .int v6), (7, .int v7), (8, .int v8)]) (rest := [.int v7]) (res := fun r => ([.int r], lay, h)) rfl e (fun r e => BJm_tells L xs v0 ((((4 : Int32) * ((v4 >>> (v8 &&& 31) : Int32) &&& (1 : Int32))) + ((2 : Int32) * ((v5 >>> (v8 &&& 31) : Int32) &&& (1 : Int32)))) + ((v6 >>> (v8 &&& 31) : Int32) &&& (1 : Int32))) lay h r e) (fun c4 e => ?_)
    show Bg L xs 196 95 [(0, .int v0), (1, .int v1), (2, .int v2), (3, .int v3), (4, .int v4), (5, .int v5), (6, .int v6), (7, .int v7), (8, .int v8)] [.int c4, .int v7] lay h R
    refine seg_Bg (pc' := 56) (lv' := [(0, .int v0), (1, .int v1), (2, .int v2), (3, .int v3), (4, .int v4), (5, .int v5), (6, .int v6), (7, .int (v7 ||| (c4 <<< (v8 &&& 31) : Int32))), (8, .int (v8 + 1))]) (st' := []) (lay' := lay) (h' := h) 6 rfl ?_
    exact hH (v7 ||| (c4 <<< (v8 &&& 31) : Int32), v8 + 1) (Option.some.inj e).symm
  · exact hE (v7, v8) (Option.some.inj e).symm
theorem BJm_keepsRow_L56 (L : Nat) (xs : Nat → Int32) (v0 v1 v2 v3 v4 v5 v6 : Int32) (lay : Lay) (h : Hp) (R : List Value × Lay × Hp) (C : (Int32 × Int32) → Prop) (hE : ∀ t : Int32 × Int32, C t → Bg L xs 196 107 [(0, .int v0), (1, .int v1), (2, .int v2), (3, .int v3), (4, .int v4), (5, .int v5), (6, .int v6), (7, .int t.1), (8, .int t.2)] [] lay h R) (n : Nat) (s : Int32 × Int32) (o : (Int32 × Int32)) (e : loopN n (fun s => Jm_keepsRow_L56 v0 v1 v2 v3 v4 v5 v6 s.1 s.2) s = some o) (hC : C o) : Bg L xs 196 56 [(0, .int v0), (1, .int v1), (2, .int v2), (3, .int v3), (4, .int v4), (5, .int v5), (6, .int v6), (7, .int s.1), (8, .int s.2)] [] lay h R := by
  refine loop_B (fun s => Jm_keepsRow_L56 v0 v1 v2 v3 v4 v5 v6 s.1 s.2) (fun s : Int32 × Int32 => Bg L xs 196 56 [(0, .int v0), (1, .int v1), (2, .int v2), (3, .int v3), (4, .int v4), (5, .int v5), (6, .int v6), (7, .int s.1), (8, .int s.2)] [] lay h R) C (fun s o e => ?_) n s o e hC
  intro hK
  refine BJm_keepsRow_L56_s L xs v0 v1 v2 v3 v4 v5 v6 lay h R s.1 s.2 o (fun s q => by subst q; exact hK) (fun t q => by subst q; exact hE t hK) e
set_option maxRecDepth 100000 in
theorem BJm_keepsRow (L : Nat) (xs : Nat → Int32) (v0 : Int32) (v1 : Int32) (v2 : Int32) (v3 : Int32) (lay : Lay) (h : Hp) (o : Int32) (e : Jm_keepsRow v0 v1 v2 v3 = some o) : Bg L xs 196 0 [(0, .int v0), (1, .int v1), (2, .int v2), (3, .int v3)] [] lay h ([.int o], lay, h) := by
  obtain ⟨R, hR⟩ : ∃ R : List Value × Lay × Hp, R = ([.int o], lay, h) := ⟨_, rfl⟩
  rw [← hR]
  refine seg_Bg (pc' := 24) (lv' := [(0, .int v0), (1, .int v1), (2, .int v2), (3, .int v3), (4, .int (v3 / 64)), (5, .int ((v3 / 8) - (v3 / 8) / 8 * 8)), (6, .int (v3 - v3 / 8 * 8))]) (st' := [.int (v3 / 64), .int v2]) (lay' := lay) (h' := h) 16 rfl ?_
  refine call_Bg (a := 167) (la := [(0, .int v2), (1, .int (v3 / 64))]) (np := 27) (lv' := [(0, .int v0), (1, .int v1), (2, .int v2), (3, .int v3), (4, .int (v3 / 64)), (5, .int ((v3 / 8) - (v3 / 8) / 8 * 8)), (6, .int (v3 - v3 / 8 * 8))]) (rest := []) (res := fun r => ([.int r], lay, h)) rfl e (fun r e => BJm_has L xs v2 (v3 / 64) lay h r e) (fun c1 e => ?_)
  show Bg L xs 196 27 [(0, .int v0), (1, .int v1), (2, .int v2), (3, .int v3), (4, .int (v3 / 64)), (5, .int ((v3 / 8) - (v3 / 8) / 8 * 8)), (6, .int (v3 - v3 / 8 * 8))] [.int c1] lay h R
  refine seg_Bg (pc' := (if c1 = 0 then 48 else 30)) (lv' := [(0, .int v0), (1, .int v1), (2, .int v2), (3, .int v3), (4, .int (v3 / 64)), (5, .int ((v3 / 8) - (v3 / 8) / 8 * 8)), (6, .int (v3 - v3 / 8 * 8))]) (st' := []) (lay' := lay) (h' := h) 1 rfl ?_
  refine pc_ite e (fun e => ?_) (fun e => ?_)
  · refine seg_Bg (pc' := 49) (lv' := [(0, .int v0), (1, .int v1), (2, .int v2), (3, .int v3), (4, .int (v3 / 64)), (5, .int ((v3 / 8) - (v3 / 8) / 8 * 8)), (6, .int (v3 - v3 / 8 * 8))]) (st' := [.int 1]) (lay' := lay) (h' := h) 1 rfl ?_
    rw [hR, ← Option.some.inj e]; exact ret_Bg rfl
  · refine seg_Bg (pc' := 33) (lv' := [(0, .int v0), (1, .int v1), (2, .int v2), (3, .int v3), (4, .int (v3 / 64)), (5, .int ((v3 / 8) - (v3 / 8) / 8 * 8)), (6, .int (v3 - v3 / 8 * 8))]) (st' := [.int ((v3 / 8) - (v3 / 8) / 8 * 8), .int v2]) (lay' := lay) (h' := h) 2 rfl ?_
    refine call_Bg (a := 167) (la := [(0, .int v2), (1, .int ((v3 / 8) - (v3 / 8) / 8 * 8))]) (np := 36) (lv' := [(0, .int v0), (1, .int v1), (2, .int v2), (3, .int v3), (4, .int (v3 / 64)), (5, .int ((v3 / 8) - (v3 / 8) / 8 * 8)), (6, .int (v3 - v3 / 8 * 8))]) (rest := []) (res := fun r => ([.int r], lay, h)) rfl e (fun r e => BJm_has L xs v2 ((v3 / 8) - (v3 / 8) / 8 * 8) lay h r e) (fun c2 e => ?_)
    show Bg L xs 196 36 [(0, .int v0), (1, .int v1), (2, .int v2), (3, .int v3), (4, .int (v3 / 64)), (5, .int ((v3 / 8) - (v3 / 8) / 8 * 8)), (6, .int (v3 - v3 / 8 * 8))] [.int c2] lay h R
    refine seg_Bg (pc' := (if c2 = 0 then 48 else 39)) (lv' := [(0, .int v0), (1, .int v1), (2, .int v2), (3, .int v3), (4, .int (v3 / 64)), (5, .int ((v3 / 8) - (v3 / 8) / 8 * 8)), (6, .int (v3 - v3 / 8 * 8))]) (st' := []) (lay' := lay) (h' := h) 1 rfl ?_
    refine pc_ite e (fun e => ?_) (fun e => ?_)
    · refine seg_Bg (pc' := 49) (lv' := [(0, .int v0), (1, .int v1), (2, .int v2), (3, .int v3), (4, .int (v3 / 64)), (5, .int ((v3 / 8) - (v3 / 8) / 8 * 8)), (6, .int (v3 - v3 / 8 * 8))]) (st' := [.int 1]) (lay' := lay) (h' := h) 1 rfl ?_
      rw [hR, ← Option.some.inj e]; exact ret_Bg rfl
    · refine seg_Bg (pc' := 42) (lv' := [(0, .int v0), (1, .int v1), (2, .int v2), (3, .int v3), (4, .int (v3 / 64)), (5, .int ((v3 / 8) - (v3 / 8) / 8 * 8)), (6, .int (v3 - v3 / 8 * 8))]) (st' := [.int (v3 - v3 / 8 * 8), .int v2]) (lay' := lay) (h' := h) 2 rfl ?_
      refine call_Bg (a := 167) (la := [(0, .int v2), (1, .int (v3 - v3 / 8 * 8))]) (np := 45) (lv' := [(0, .int v0), (1, .int v1), (2, .int v2), (3, .int v3), (4, .int (v3 / 64)), (5, .int ((v3 / 8) - (v3 / 8) / 8 * 8)), (6, .int (v3 - v3 / 8 * 8))]) (rest := []) (res := fun r => ([.int r], lay, h)) rfl e (fun r e => BJm_has L xs v2 (v3 - v3 / 8 * 8) lay h r e) (fun c3 e => ?_)
      show Bg L xs 196 45 [(0, .int v0), (1, .int v1), (2, .int v2), (3, .int v3), (4, .int (v3 / 64)), (5, .int ((v3 / 8) - (v3 / 8) / 8 * 8)), (6, .int (v3 - v3 / 8 * 8))] [.int c3] lay h R
      refine seg_Bg (pc' := (if c3 = 0 then 48 else 50)) (lv' := [(0, .int v0), (1, .int v1), (2, .int v2), (3, .int v3), (4, .int (v3 / 64)), (5, .int ((v3 / 8) - (v3 / 8) / 8 * 8)), (6, .int (v3 - v3 / 8 * 8))]) (st' := []) (lay' := lay) (h' := h) 1 rfl ?_
      refine pc_ite e (fun e => ?_) (fun e => ?_)
      · refine seg_Bg (pc' := 49) (lv' := [(0, .int v0), (1, .int v1), (2, .int v2), (3, .int v3), (4, .int (v3 / 64)), (5, .int ((v3 / 8) - (v3 / 8) / 8 * 8)), (6, .int (v3 - v3 / 8 * 8))]) (st' := [.int 1]) (lay' := lay) (h' := h) 1 rfl ?_
        rw [hR, ← Option.some.inj e]; exact ret_Bg rfl
      · refine seg_Bg (pc' := 56) (lv' := [(0, .int v0), (1, .int v1), (2, .int v2), (3, .int v3), (4, .int (v3 / 64)), (5, .int ((v3 / 8) - (v3 / 8) / 8 * 8)), (6, .int (v3 - v3 / 8 * 8)), (7, .int 0), (8, .int 0)]) (st' := []) (lay' := lay) (h' := h) 4 rfl ?_
        obtain ⟨t5o, et5o, e⟩ := bd_s e
        refine BJm_keepsRow_L56 L xs v0 v1 v2 v3 (v3 / 64) ((v3 / 8) - (v3 / 8) / 8 * 8) (v3 - v3 / 8 * 8) lay h R (fun (t5 : Int32 × Int32) => (bd (Jm_has v2 t5.1) fun c6 => bif isZ c6 then some c6 else none) = some o) (fun t5 e => ?_) 1000000 (0, 0) _ et5o e
        refine seg_Bg (pc' := 110) (lv' := [(0, .int v0), (1, .int v1), (2, .int v2), (3, .int v3), (4, .int (v3 / 64)), (5, .int ((v3 / 8) - (v3 / 8) / 8 * 8)), (6, .int (v3 - v3 / 8 * 8)), (7, .int t5.1), (8, .int t5.2)]) (st' := [.int t5.1, .int v2]) (lay' := lay) (h' := h) 2 rfl ?_
        refine call_Bg (a := 167) (la := [(0, .int v2), (1, .int t5.1)]) (np := 113) (lv' := [(0, .int v0), (1, .int v1), (2, .int v2), (3, .int v3), (4, .int (v3 / 64)), (5, .int ((v3 / 8) - (v3 / 8) / 8 * 8)), (6, .int (v3 - v3 / 8 * 8)), (7, .int t5.1), (8, .int t5.2)]) (rest := []) (res := fun r => ([.int r], lay, h)) rfl e (fun r e => BJm_has L xs v2 t5.1 lay h r e) (fun c6 e => ?_)
        show Bg L xs 196 113 [(0, .int v0), (1, .int v1), (2, .int v2), (3, .int v3), (4, .int (v3 / 64)), (5, .int ((v3 / 8) - (v3 / 8) / 8 * 8)), (6, .int (v3 - v3 / 8 * 8)), (7, .int t5.1), (8, .int t5.2)] [.int c6] lay h R
        exact retZ_Bg (g := isZ c6) rfl e fun e => (by rw [hR, ← Option.some.inj e])

set_option maxRecDepth 100000 in
theorem BJm_keepsAll_L5_s (L : Nat) (xs : Nat → Int32) (v0 v1 v2 : Int32) (lay : Lay) (h : Hp) (R : List Value × Lay × Hp) (v3 v4 : Int32) (o : ((Int32 × Int32) ⊕ (Int32 × Int32))) (hH : ∀ s : Int32 × Int32, o = .inl s → Bg L xs 197 5 [(0, .int v0), (1, .int v1), (2, .int v2), (3, .int s.1), (4, .int s.2)] [] lay h R) (hE : ∀ t : Int32 × Int32, o = .inr t → Bg L xs 197 32 [(0, .int v0), (1, .int v1), (2, .int v2), (3, .int t.1), (4, .int t.2)] [] lay h R) (e : Jm_keepsAll_L5 v0 v1 v2 v3 v4 = some o) : Bg L xs 197 5 [(0, .int v0), (1, .int v1), (2, .int v2), (3, .int v3), (4, .int v4)] [] lay h R := by
  refine seg_Bg (pc' := (if v4 < 512 then 13 else 32)) (lv' := [(0, .int v0), (1, .int v1), (2, .int v2), (3, .int v3), (4, .int v4)]) (st' := []) (lay' := lay) (h' := h) 3 rfl ?_
  refine pc_ite e (fun e => ?_) (fun e => ?_)
  · refine seg_Bg (pc' := (if v3 = 0 then 32 else 17)) (lv' := [(0, .int v0), (1, .int v1), (2, .int v2), (3, .int v3), (4, .int v4)]) (st' := []) (lay' := lay) (h' := h) 2 rfl ?_
    refine pc_ite e (fun e => ?_) (fun e => ?_)
    · exact hE (v3, v4) (Option.some.inj e).symm
    · refine seg_Bg (pc' := 22) (lv' := [(0, .int v0), (1, .int v1), (2, .int v2), (3, .int v3), (4, .int v4)]) (st' := [.int v4, .int v2, .int v1, .int v0]) (lay' := lay) (h' := h) 4 rfl ?_
      refine call_Bg (a := 196) (la := [(0, .int v0), (1, .int v1), (2, .int v2), (3, .int v4)]) (np := 25) (lv' := [(0, .int v0), (1, .int v1), (2, .int v2), (3, .int v3), (4, .int v4)]) (rest := []) (res := fun r => ([.int r], lay, h)) rfl e (fun r e => BJm_keepsRow L xs v0 v1 v2 v4 lay h r e) (fun c1 e => ?_)
      show Bg L xs 197 25 [(0, .int v0), (1, .int v1), (2, .int v2), (3, .int v3), (4, .int v4)] [.int c1] lay h R
      refine seg_Bg (pc' := 5) (lv' := [(0, .int v0), (1, .int v1), (2, .int v2), (3, .int c1), (4, .int (v4 + 1))]) (st' := []) (lay' := lay) (h' := h) 3 rfl ?_
      exact hH (c1, v4 + 1) (Option.some.inj e).symm
  · exact hE (v3, v4) (Option.some.inj e).symm
theorem BJm_keepsAll_L5 (L : Nat) (xs : Nat → Int32) (v0 v1 v2 : Int32) (lay : Lay) (h : Hp) (R : List Value × Lay × Hp) (C : (Int32 × Int32) → Prop) (hE : ∀ t : Int32 × Int32, C t → Bg L xs 197 32 [(0, .int v0), (1, .int v1), (2, .int v2), (3, .int t.1), (4, .int t.2)] [] lay h R) (n : Nat) (s : Int32 × Int32) (o : (Int32 × Int32)) (e : loopN n (fun s => Jm_keepsAll_L5 v0 v1 v2 s.1 s.2) s = some o) (hC : C o) : Bg L xs 197 5 [(0, .int v0), (1, .int v1), (2, .int v2), (3, .int s.1), (4, .int s.2)] [] lay h R := by
  refine loop_B (fun s => Jm_keepsAll_L5 v0 v1 v2 s.1 s.2) (fun s : Int32 × Int32 => Bg L xs 197 5 [(0, .int v0), (1, .int v1), (2, .int v2), (3, .int s.1), (4, .int s.2)] [] lay h R) C (fun s o e => ?_) n s o e hC
  intro hK
  refine BJm_keepsAll_L5_s L xs v0 v1 v2 lay h R s.1 s.2 o (fun s q => by subst q; exact hK) (fun t q => by subst q; exact hE t hK) e
set_option maxRecDepth 100000 in
theorem BJm_keepsAll (L : Nat) (xs : Nat → Int32) (v0 : Int32) (v1 : Int32) (v2 : Int32) (lay : Lay) (h : Hp) (o : Int32) (e : Jm_keepsAll v0 v1 v2 = some o) : Bg L xs 197 0 [(0, .int v0), (1, .int v1), (2, .int v2)] [] lay h ([.int o], lay, h) := by
  obtain ⟨R, hR⟩ : ∃ R : List Value × Lay × Hp, R = ([.int o], lay, h) := ⟨_, rfl⟩
  rw [← hR]
  refine seg_Bg (pc' := 5) (lv' := [(0, .int v0), (1, .int v1), (2, .int v2), (3, .int 1), (4, .int 0)]) (st' := []) (lay' := lay) (h' := h) 4 rfl ?_
  obtain ⟨t2o, et2o, e⟩ := bd_s e
  refine BJm_keepsAll_L5 L xs v0 v1 v2 lay h R (fun (t2 : Int32 × Int32) => (bif isZ t2.1 then some t2.1 else none) = some o) (fun t2 e => ?_) 1000000 (1, 0) _ et2o e
  refine seg_Bg (pc' := 33) (lv' := [(0, .int v0), (1, .int v1), (2, .int v2), (3, .int t2.1), (4, .int t2.2)]) (st' := [.int t2.1]) (lay' := lay) (h' := h) 1 rfl ?_
  exact retZ_Bg (g := isZ t2.1) rfl e fun e => (by rw [hR, ← Option.some.inj e])

set_option maxRecDepth 100000 in
theorem BJm_relation_J65 (L : Nat) (xs : Nat → Int32) (v1 v2 v3 v4 v5 v6 v7 s0 s1 : Int32) (h : Hp) (o : ((Int32 × Int32 × Int32) ⊕ (Int32 × Int32 × Int32))) (e : Jm_relation_J65 v1 v2 v3 v4 v5 v6 v7 s0 s1 h = some o) (R : List Value × Lay × Hp) (hH : ∀ s : Int32 × Int32 × Int32, o = .inl s → Bg L xs 238 36 [(0, .ref 37), (1, .int v1), (2, .int v2), (3, .int v3), (4, .int s.1), (5, .int s.2.1), (6, .int s.2.2)] [] LY88 h R) (hE : ∀ t : Int32 × Int32 × Int32, o = .inr t → Bg L xs 238 97 [(0, .ref 37), (1, .int v1), (2, .int v2), (3, .int v3), (4, .int t.1), (5, .int t.2.1), (6, .int t.2.2)] [] LY88 h R) : Bg L xs 238 65 [(0, .ref 37), (1, .int v1), (2, .int v2), (3, .int v3), (4, .int v4), (5, .int v5), (6, .int v6), (7, .int v7)] [.int s1, .int s0] LY88 h R := by
  refine seg_Bg (pc' := (if v7 = 0 then 85 else 75)) (lv' := [(0, .ref 37), (1, .int v1), (2, .int v2), (3, .int v3), (4, .int (s0 + s1)), (5, .int v5), (6, .int v6), (7, .int v7)]) (st' := [.int v5]) (lay' := LY88) (h' := h) 5 rfl ?_
  refine pc_ite e (fun e => ?_) (fun e => ?_)
  · refine seg_Bg (pc' := 36) (lv' := [(0, .ref 37), (1, .int v1), (2, .int v2), (3, .int v3), (4, .int (s0 + s1)), (5, .int (v5 &&& (4095 : Int32))), (6, .int (v6 + 1)), (7, .int v7)]) (st' := []) (lay' := LY88) (h' := h) 5 rfl ?_
    refine kp_Bg (lv' := [(0, .ref 37), (1, .int v1), (2, .int v2), (3, .int v3), (4, .int (s0 + s1)), (5, .int (v5 &&& (4095 : Int32))), (6, .int (v6 + 1))]) rfl rfl ?_
    exact hH (s0 + s1, v5 &&& (4095 : Int32), v6 + 1) (Option.some.inj e).symm
  · refine seg_Bg (pc' := 81) (lv' := [(0, .ref 37), (1, .int v1), (2, .int v2), (3, .int v3), (4, .int (s0 + s1)), (5, .int v5), (6, .int v6), (7, .int v7)]) (st' := [.int v6, .ref 43, .int v5]) (lay' := LY88) (h' := h) 3 rfl ?_
    refine gd_Bg (pc' := 82) (lv' := [(0, .ref 37), (1, .int v1), (2, .int v2), (3, .int v3), (4, .int (s0 + s1)), (5, .int v5), (6, .int v6), (7, .int v7)]) (st' := [.int (h 43 (Int32.toNatClampNeg v6)), .int v5]) (lay' := LY88) (h' := h) (g := ibB v6 256) rfl e fun e => ?_
    refine seg_Bg (pc' := 36) (lv' := [(0, .ref 37), (1, .int v1), (2, .int v2), (3, .int v3), (4, .int (s0 + s1)), (5, .int (v5 &&& (h 43 (Int32.toNatClampNeg v6)))), (6, .int (v6 + 1)), (7, .int v7)]) (st' := []) (lay' := LY88) (h' := h) 5 rfl ?_
    refine kp_Bg (lv' := [(0, .ref 37), (1, .int v1), (2, .int v2), (3, .int v3), (4, .int (s0 + s1)), (5, .int (v5 &&& (h 43 (Int32.toNatClampNeg v6)))), (6, .int (v6 + 1))]) rfl rfl ?_
    exact hH (s0 + s1, v5 &&& (h 43 (Int32.toNatClampNeg v6)), v6 + 1) (Option.some.inj e).symm
set_option maxRecDepth 100000 in
theorem BJm_relation_L36_s (L : Nat) (xs : Nat → Int32) (v1 v2 v3 : Int32) (h : Hp) (R : List Value × Lay × Hp) (v4 v5 v6 : Int32) (o : ((Int32 × Int32 × Int32) ⊕ (Int32 × Int32 × Int32))) (hH : ∀ s : Int32 × Int32 × Int32, o = .inl s → Bg L xs 238 36 [(0, .ref 37), (1, .int v1), (2, .int v2), (3, .int v3), (4, .int s.1), (5, .int s.2.1), (6, .int s.2.2)] [] LY88 h R) (hE : ∀ t : Int32 × Int32 × Int32, o = .inr t → Bg L xs 238 97 [(0, .ref 37), (1, .int v1), (2, .int v2), (3, .int v3), (4, .int t.1), (5, .int t.2.1), (6, .int t.2.2)] [] LY88 h R) (e : Jm_relation_L36 v1 v2 v3 h v4 v5 v6 = some o) : Bg L xs 238 36 [(0, .ref 37), (1, .int v1), (2, .int v2), (3, .int v3), (4, .int v4), (5, .int v5), (6, .int v6)] [] LY88 h R := by
  refine seg_Bg (pc' := (if v6 < 256 then 44 else 97)) (lv' := [(0, .ref 37), (1, .int v1), (2, .int v2), (3, .int v3), (4, .int v4), (5, .int v5), (6, .int v6)]) (st' := []) (lay' := LY88) (h' := h) 3 rfl ?_
  refine pc_ite e (fun e => ?_) (fun e => ?_)
  · refine seg_Bg (pc' := 48) (lv' := [(0, .ref 37), (1, .int v1), (2, .int v2), (3, .int v3), (4, .int v4), (5, .int v5), (6, .int v6)]) (st' := [.int v2, .int v1, .int v6]) (lay' := LY88) (h' := h) 3 rfl ?_
    refine call_Bg (a := 197) (la := [(0, .int v6), (1, .int v1), (2, .int v2)]) (np := 51) (lv' := [(0, .ref 37), (1, .int v1), (2, .int v2), (3, .int v3), (4, .int v4), (5, .int v5), (6, .int v6)]) (rest := []) (res := fun r => ([.int r], LY88, h)) rfl e (fun r e => BJm_keepsAll L xs v6 v1 v2 LY88 h r e) (fun c4 e => ?_)
    show Bg L xs 238 51 [(0, .ref 37), (1, .int v1), (2, .int v2), (3, .int v3), (4, .int v4), (5, .int v5), (6, .int v6)] [.int c4] LY88 h R
    refine seg_Bg (pc' := (if c4 = 0 then 64 else 60)) (lv' := [(0, .ref 37), (1, .int v1), (2, .int v2), (3, .int v3), (4, .int v4), (5, .int v5), (6, .int v6), (7, .int c4)]) (st' := [.int v4]) (lay' := LY88) (h' := h) 4 rfl ?_
    refine pc_ite e (fun e => ?_) (fun e => ?_)
    · refine seg_Bg (pc' := 65) (lv' := [(0, .ref 37), (1, .int v1), (2, .int v2), (3, .int v3), (4, .int v4), (5, .int v5), (6, .int v6), (7, .int c4)]) (st' := [.int 0, .int v4]) (lay' := LY88) (h' := h) 1 rfl ?_
      exact BJm_relation_J65 L xs v1 v2 v3 v4 v5 v6 c4 v4 0 h o e R hH hE
    · refine seg_Bg (pc' := 65) (lv' := [(0, .ref 37), (1, .int v1), (2, .int v2), (3, .int v3), (4, .int v4), (5, .int v5), (6, .int v6), (7, .int c4)]) (st' := [.int 1, .int v4]) (lay' := LY88) (h' := h) 2 rfl ?_
      exact BJm_relation_J65 L xs v1 v2 v3 v4 v5 v6 c4 v4 1 h o e R hH hE
  · exact hE (v4, v5, v6) (Option.some.inj e).symm
theorem BJm_relation_L36 (L : Nat) (xs : Nat → Int32) (v1 v2 v3 : Int32) (h : Hp) (R : List Value × Lay × Hp) (C : (Int32 × Int32 × Int32) → Prop) (hE : ∀ t : Int32 × Int32 × Int32, C t → Bg L xs 238 97 [(0, .ref 37), (1, .int v1), (2, .int v2), (3, .int v3), (4, .int t.1), (5, .int t.2.1), (6, .int t.2.2)] [] LY88 h R) (n : Nat) (s : Int32 × Int32 × Int32) (o : (Int32 × Int32 × Int32)) (e : loopN n (fun s => Jm_relation_L36 v1 v2 v3 h s.1 s.2.1 s.2.2) s = some o) (hC : C o) : Bg L xs 238 36 [(0, .ref 37), (1, .int v1), (2, .int v2), (3, .int v3), (4, .int s.1), (5, .int s.2.1), (6, .int s.2.2)] [] LY88 h R := by
  refine loop_B (fun s => Jm_relation_L36 v1 v2 v3 h s.1 s.2.1 s.2.2) (fun s : Int32 × Int32 × Int32 => Bg L xs 238 36 [(0, .ref 37), (1, .int v1), (2, .int v2), (3, .int v3), (4, .int s.1), (5, .int s.2.1), (6, .int s.2.2)] [] LY88 h R) C (fun s o e => ?_) n s o e hC
  intro hK
  refine BJm_relation_L36_s L xs v1 v2 v3 h R s.1 s.2.1 s.2.2 o (fun s q => by subst q; exact hK) (fun t q => by subst q; exact hE t hK) e
set_option maxRecDepth 100000 in
theorem BJm_relation (L : Nat) (xs : Nat → Int32) (v1 : Int32) (v2 : Int32) (v3 : Int32) (h : Hp) (o : Int32 × Hp) (e : Jm_relation v1 v2 v3 h = some o) : Bg L xs 238 0 [(0, .ref 37), (1, .int v1), (2, .int v2), (3, .int v3)] [] LY88 h ([.int o.1], LY88, o.2) := by
  obtain ⟨R, hR⟩ : ∃ R : List Value × Lay × Hp, R = ([.int o.1], LY88, o.2) := ⟨_, rfl⟩
  rw [← hR]
  refine seg_Bg (pc' := 2) (lv' := [(0, .ref 37), (1, .int v1), (2, .int v2), (3, .int v3)]) (st' := [.int v2, .int v1]) (lay' := LY88) (h' := h) 2 rfl ?_
  refine call_Bg (a := 198) (la := [(0, .int v1), (1, .int v2)]) (np := 5) (lv' := [(0, .ref 37), (1, .int v1), (2, .int v2), (3, .int v3)]) (rest := []) (res := fun r => ([.int r], LY88, h)) rfl e (fun r e => BJm_isRelation L xs v1 v2 LY88 h r e) (fun c1 e => ?_)
  show Bg L xs 238 5 [(0, .ref 37), (1, .int v1), (2, .int v2), (3, .int v3)] [.int c1] LY88 h R
  refine seg_Bg (pc' := (if c1 = 0 then 18 else 8)) (lv' := [(0, .ref 37), (1, .int v1), (2, .int v2), (3, .int v3)]) (st' := []) (lay' := LY88) (h' := h) 1 rfl ?_
  refine pc_ite e (fun e => ?_) (fun e => ?_)
  · refine seg_Bg (pc' := 20) (lv' := [(0, .ref 37), (1, .int v1), (2, .int v2), (3, .int v3)]) (st' := [.int (-1000000002)]) (lay' := LY88) (h' := h) 1 rfl ?_
    rw [hR, ← Option.some.inj e]; exact ret_Bg rfl
  · refine seg_Bg (pc' := 12) (lv' := [(0, .ref 37), (1, .int v1), (2, .int v2), (3, .int v3)]) (st' := [.long 1, .long 0, .long (Int32.toInt64 v3)]) (lay' := LY88) (h' := h) 4 rfl ?_
    refine call_Bg (a := 166) (la := [(0, .long (Int32.toInt64 v3)), (2, .long 0), (4, .long 1)]) (np := 15) (lv' := [(0, .ref 37), (1, .int v1), (2, .int v2), (3, .int v3)]) (rest := []) (res := fun r => ([.int r], LY88, h)) rfl e (fun r e => BJm_in L xs (Int32.toInt64 v3) 0 1 LY88 h r e) (fun c2 e => ?_)
    show Bg L xs 238 15 [(0, .ref 37), (1, .int v1), (2, .int v2), (3, .int v3)] [.int c2] LY88 h R
    refine seg_Bg (pc' := (if c2 = 0 then 18 else 21)) (lv' := [(0, .ref 37), (1, .int v1), (2, .int v2), (3, .int v3)]) (st' := []) (lay' := LY88) (h' := h) 1 rfl ?_
    refine pc_ite e (fun e => ?_) (fun e => ?_)
    · refine seg_Bg (pc' := 20) (lv' := [(0, .ref 37), (1, .int v1), (2, .int v2), (3, .int v3)]) (st' := [.int (-1000000002)]) (lay' := LY88) (h' := h) 1 rfl ?_
      rw [hR, ← Option.some.inj e]; exact ret_Bg rfl
    · refine seg_Bg (pc' := 22) (lv' := [(0, .ref 37), (1, .int v1), (2, .int v2), (3, .int v3)]) (st' := [.ref 37]) (lay' := LY88) (h' := h) 1 rfl ?_
      refine call_Bg (a := 184) (la := [(0, .ref 37)]) (np := 25) (lv' := [(0, .ref 37), (1, .int v1), (2, .int v2), (3, .int v3)]) (rest := []) (res := fun r => ([], LY88, r)) rfl e (fun r e => BJm_layTraits L xs h r e) (fun c3 e => ?_)
      show Bg L xs 238 25 [(0, .ref 37), (1, .int v1), (2, .int v2), (3, .int v3)] [] LY88 c3 R
      refine seg_Bg (pc' := 36) (lv' := [(0, .ref 37), (1, .int v1), (2, .int v2), (3, .int v3), (4, .int 0), (5, .int 4095), (6, .int 0)]) (st' := []) (lay' := LY88) (h' := c3) 6 rfl ?_
      obtain ⟨t5o, et5o, e⟩ := bd_s e
      refine BJm_relation_L36 L xs v1 v2 v3 c3 R (fun (t5 : Int32 × Int32 × Int32) => (if v3 = 0 then some (t5.1, c3) else bd (Jm_placeOf t5.2.1 c3) fun c6 => some (c6.1, c6.2)) = some o) (fun t5 e => ?_) 1000000 (0, 4095, 0) _ et5o e
      refine seg_Bg (pc' := (if v3 = 0 then 101 else 106)) (lv' := [(0, .ref 37), (1, .int v1), (2, .int v2), (3, .int v3), (4, .int t5.1), (5, .int t5.2.1), (6, .int t5.2.2)]) (st' := []) (lay' := LY88) (h' := c3) 2 rfl ?_
      refine pc_ite e (fun e => ?_) (fun e => ?_)
      · refine seg_Bg (pc' := 112) (lv' := [(0, .ref 37), (1, .int v1), (2, .int v2), (3, .int v3), (4, .int t5.1), (5, .int t5.2.1), (6, .int t5.2.2)]) (st' := [.int t5.1]) (lay' := LY88) (h' := c3) 2 rfl ?_
        rw [hR, ← Option.some.inj e]; exact ret_Bg rfl
      · refine seg_Bg (pc' := 109) (lv' := [(0, .ref 37), (1, .int v1), (2, .int v2), (3, .int v3), (4, .int t5.1), (5, .int t5.2.1), (6, .int t5.2.2)]) (st' := [.int t5.2.1, .ref 37]) (lay' := LY88) (h' := c3) 2 rfl ?_
        refine call_Bg (a := 188) (la := [(0, .ref 37), (1, .int t5.2.1)]) (np := 112) (lv' := [(0, .ref 37), (1, .int v1), (2, .int v2), (3, .int v3), (4, .int t5.1), (5, .int t5.2.1), (6, .int t5.2.2)]) (rest := []) (res := fun r => ([.int r.1], LY88, r.2)) rfl e (fun r e => BJm_placeOf L xs t5.2.1 c3 r e) (fun c6 e => ?_)
        show Bg L xs 238 112 [(0, .ref 37), (1, .int v1), (2, .int v2), (3, .int v3), (4, .int t5.1), (5, .int t5.2.1), (6, .int t5.2.2)] [.int c6.1] LY88 c6.2 R
        rw [hR, ← Option.some.inj e]; exact ret_Bg rfl

set_option maxRecDepth 100000 in
theorem BJyn_keeps (L : Nat) (xs : Nat → Int32) (v1 : Int32) (v2 : Int32) (v3 : Int32) (h : Hp) (o : Int32) (e : Jyn_keeps v1 v2 v3 h = some o) : Bg L xs 146 0 [(0, .ref 0), (1, .int v1), (2, .int v2), (3, .int v3)] [] LY88 h ([.int o], LY88, h) := by
  obtain ⟨R, hR⟩ : ∃ R : List Value × Lay × Hp, R = ([.int o], LY88, h) := ⟨_, rfl⟩
  rw [← hR]
  refine seg_Bg (pc' := 5) (lv' := [(0, .ref 0), (1, .int v1), (2, .int v2), (3, .int v3)]) (st' := [.int v1, .ref 29]) (lay' := LY88) (h' := h) 3 rfl ?_
  refine call_Bg (a := 94) (la := [(0, .ref 29), (1, .int v1)]) (np := 8) (lv' := [(0, .ref 0), (1, .int v1), (2, .int v2), (3, .int v3)]) (rest := []) (res := fun r => ([.int r], LY88, h)) rfl e (fun r e => BJsh_holds L xs v1 h r e) (fun c1 e => ?_)
  show Bg L xs 146 8 [(0, .ref 0), (1, .int v1), (2, .int v2), (3, .int v3)] [.int c1] LY88 h R
  refine seg_Bg (pc' := (if c1 = 0 then 11 else 14)) (lv' := [(0, .ref 0), (1, .int v1), (2, .int v2), (3, .int v3)]) (st' := []) (lay' := LY88) (h' := h) 1 rfl ?_
  refine pc_ite e (fun e => ?_) (fun e => ?_)
  · refine seg_Bg (pc' := 13) (lv' := [(0, .ref 0), (1, .int v1), (2, .int v2), (3, .int v3)]) (st' := [.int (-1000000001)]) (lay' := LY88) (h' := h) 1 rfl ?_
    rw [hR, ← Option.some.inj e]; exact ret_Bg rfl
  · refine seg_Bg (pc' := 16) (lv' := [(0, .ref 0), (1, .int v1), (2, .int v2), (3, .int v3)]) (st' := [.int v3, .int v2]) (lay' := LY88) (h' := h) 2 rfl ?_
    refine call_Bg (a := 88) (la := [(0, .int v2), (1, .int v3)]) (np := 19) (lv' := [(0, .ref 0), (1, .int v1), (2, .int v2), (3, .int v3)]) (rest := []) (res := fun r => ([.int r], LY88, h)) rfl e (fun r e => BJre_isRelation L xs v2 v3 LY88 h r e) (fun c2 e => ?_)
    show Bg L xs 146 19 [(0, .ref 0), (1, .int v1), (2, .int v2), (3, .int v3)] [.int c2] LY88 h R
    refine seg_Bg (pc' := (if c2 = 0 then 22 else 25)) (lv' := [(0, .ref 0), (1, .int v1), (2, .int v2), (3, .int v3)]) (st' := []) (lay' := LY88) (h' := h) 1 rfl ?_
    refine pc_ite e (fun e => ?_) (fun e => ?_)
    · refine seg_Bg (pc' := 24) (lv' := [(0, .ref 0), (1, .int v1), (2, .int v2), (3, .int v3)]) (st' := [.int (-1000000002)]) (lay' := LY88) (h' := h) 1 rfl ?_
      rw [hR, ← Option.some.inj e]; exact ret_Bg rfl
    · refine seg_Bg (pc' := 30) (lv' := [(0, .ref 0), (1, .int v1), (2, .int v2), (3, .int v3)]) (st' := [.int v1, .ref 29]) (lay' := LY88) (h' := h) 3 rfl ?_
      refine call_Bg (a := 95) (la := [(0, .ref 29), (1, .int v1)]) (np := 33) (lv' := [(0, .ref 0), (1, .int v1), (2, .int v2), (3, .int v3)]) (rest := []) (res := fun r => ([.int r], LY88, h)) rfl e (fun r e => BJsh_codeAt L xs v1 h r e) (fun c3 e => ?_)
      show Bg L xs 146 33 [(0, .ref 0), (1, .int v1), (2, .int v2), (3, .int v3)] [.int c3] LY88 h R
      refine seg_Bg (pc' := 35) (lv' := [(0, .ref 0), (1, .int v1), (2, .int v2), (3, .int v3)]) (st' := [.int v3, .int v2, .int c3]) (lay' := LY88) (h' := h) 2 rfl ?_
      refine call_Bg (a := 89) (la := [(0, .int c3), (1, .int v2), (2, .int v3)]) (np := 38) (lv' := [(0, .ref 0), (1, .int v1), (2, .int v2), (3, .int v3)]) (rest := []) (res := fun r => ([.int r], LY88, h)) rfl e (fun r e => BJre_isKeptBy L xs c3 v2 v3 LY88 h r e) (fun c4 e => ?_)
      show Bg L xs 146 38 [(0, .ref 0), (1, .int v1), (2, .int v2), (3, .int v3)] [.int c4] LY88 h R
      refine seg_Bg (pc' := (if c4 = 0 then 45 else 41)) (lv' := [(0, .ref 0), (1, .int v1), (2, .int v2), (3, .int v3)]) (st' := []) (lay' := LY88) (h' := h) 1 rfl ?_
      refine pc_ite e (fun e => ?_) (fun e => ?_)
      · refine seg_Bg (pc' := 46) (lv' := [(0, .ref 0), (1, .int v1), (2, .int v2), (3, .int v3)]) (st' := [.int 0]) (lay' := LY88) (h' := h) 1 rfl ?_
        rw [hR, ← Option.some.inj e]; exact ret_Bg rfl
      · refine seg_Bg (pc' := 46) (lv' := [(0, .ref 0), (1, .int v1), (2, .int v2), (3, .int v3)]) (st' := [.int 1]) (lay' := LY88) (h' := h) 2 rfl ?_
        rw [hR, ← Option.some.inj e]; exact ret_Bg rfl

set_option maxRecDepth 100000 in
theorem BJm_keeps (L : Nat) (xs : Nat → Int32) (v1 : Int32) (v2 : Int32) (v3 : Int32) (h : Hp) (o : Int32) (e : Jm_keeps v1 v2 v3 h = some o) : Bg L xs 239 0 [(0, .ref 37), (1, .int v1), (2, .int v2), (3, .int v3)] [] LY88 h ([.int o], LY88, h) := by
  obtain ⟨R, hR⟩ : ∃ R : List Value × Lay × Hp, R = ([.int o], LY88, h) := ⟨_, rfl⟩
  rw [← hR]
  refine seg_Bg (pc' := 2) (lv' := [(0, .ref 37), (1, .int v1), (2, .int v2), (3, .int v3)]) (st' := [.int v1, .ref 37]) (lay' := LY88) (h' := h) 2 rfl ?_
  refine call_Bg (a := 223) (la := [(0, .ref 37), (1, .int v1)]) (np := 5) (lv' := [(0, .ref 37), (1, .int v1), (2, .int v2), (3, .int v3)]) (rest := []) (res := fun r => ([.int r], LY88, h)) rfl e (fun r e => BJm_isFunction L xs v1 h r e) (fun c1 e => ?_)
  show Bg L xs 239 5 [(0, .ref 37), (1, .int v1), (2, .int v2), (3, .int v3)] [.int c1] LY88 h R
  refine seg_Bg (pc' := (if c1 = 0 then 8 else 12)) (lv' := [(0, .ref 37), (1, .int v1), (2, .int v2), (3, .int v3)]) (st' := []) (lay' := LY88) (h' := h) 1 rfl ?_
  refine pc_ite e (fun e => ?_) (fun e => ?_)
  · refine seg_Bg (pc' := 11) (lv' := [(0, .ref 37), (1, .int v1), (2, .int v2), (3, .int v3)]) (st' := [.int (-1000000001)]) (lay' := LY88) (h' := h) 1 rfl ?_
    rw [hR, ← Option.some.inj e]; exact ret_Bg rfl
  · refine seg_Bg (pc' := 14) (lv' := [(0, .ref 37), (1, .int v1), (2, .int v2), (3, .int v3)]) (st' := [.int v3, .int v2]) (lay' := LY88) (h' := h) 2 rfl ?_
    refine call_Bg (a := 198) (la := [(0, .int v2), (1, .int v3)]) (np := 17) (lv' := [(0, .ref 37), (1, .int v1), (2, .int v2), (3, .int v3)]) (rest := []) (res := fun r => ([.int r], LY88, h)) rfl e (fun r e => BJm_isRelation L xs v2 v3 LY88 h r e) (fun c2 e => ?_)
    show Bg L xs 239 17 [(0, .ref 37), (1, .int v1), (2, .int v2), (3, .int v3)] [.int c2] LY88 h R
    refine seg_Bg (pc' := (if c2 = 0 then 20 else 23)) (lv' := [(0, .ref 37), (1, .int v1), (2, .int v2), (3, .int v3)]) (st' := []) (lay' := LY88) (h' := h) 1 rfl ?_
    refine pc_ite e (fun e => ?_) (fun e => ?_)
    · refine seg_Bg (pc' := 22) (lv' := [(0, .ref 37), (1, .int v1), (2, .int v2), (3, .int v3)]) (st' := [.int (-1000000002)]) (lay' := LY88) (h' := h) 1 rfl ?_
      rw [hR, ← Option.some.inj e]; exact ret_Bg rfl
    · refine seg_Bg (pc' := 30) (lv' := [(0, .ref 37), (1, .int v1), (2, .int v2), (3, .int v3)]) (st' := [.int ((1 : Int32) + v1), .ref 38]) (lay' := LY88) (h' := h) 5 rfl ?_
      refine gd_Bg (pc' := 31) (lv' := [(0, .ref 37), (1, .int v1), (2, .int v2), (3, .int v3)]) (st' := [.int (h 38 (Int32.toNatClampNeg ((1 : Int32) + v1)))]) (lay' := LY88) (h' := h) (g := ibB ((1 : Int32) + v1) 152) rfl e fun e => ?_
      refine seg_Bg (pc' := 33) (lv' := [(0, .ref 37), (1, .int v1), (2, .int v2), (3, .int v3)]) (st' := [.int v3, .int v2, .int (h 38 (Int32.toNatClampNeg ((1 : Int32) + v1)))]) (lay' := LY88) (h' := h) 2 rfl ?_
      refine call_Bg (a := 197) (la := [(0, .int (h 38 (Int32.toNatClampNeg ((1 : Int32) + v1)))), (1, .int v2), (2, .int v3)]) (np := 36) (lv' := [(0, .ref 37), (1, .int v1), (2, .int v2), (3, .int v3)]) (rest := []) (res := fun r => ([.int r], LY88, h)) rfl e (fun r e => BJm_keepsAll L xs (h 38 (Int32.toNatClampNeg ((1 : Int32) + v1))) v2 v3 LY88 h r e) (fun c3 e => ?_)
      show Bg L xs 239 36 [(0, .ref 37), (1, .int v1), (2, .int v2), (3, .int v3)] [.int c3] LY88 h R
      refine seg_Bg (pc' := (if c3 = 0 then 43 else 39)) (lv' := [(0, .ref 37), (1, .int v1), (2, .int v2), (3, .int v3)]) (st' := []) (lay' := LY88) (h' := h) 1 rfl ?_
      refine pc_ite e (fun e => ?_) (fun e => ?_)
      · refine seg_Bg (pc' := 44) (lv' := [(0, .ref 37), (1, .int v1), (2, .int v2), (3, .int v3)]) (st' := [.int 0]) (lay' := LY88) (h' := h) 1 rfl ?_
        rw [hR, ← Option.some.inj e]; exact ret_Bg rfl
      · refine seg_Bg (pc' := 44) (lv' := [(0, .ref 37), (1, .int v1), (2, .int v2), (3, .int v3)]) (st' := [.int 1]) (lay' := LY88) (h' := h) 2 rfl ?_
        rw [hR, ← Option.some.inj e]; exact ret_Bg rfl

set_option maxRecDepth 100000 in
theorem BJyn_put (L : Nat) (xs : Nat → Int32) (v1 : Int32) (v2 : Int32) (v3 : Int32) (v4 : Int32) (h : Hp) (o : Int32 × Hp) (e : Jyn_put v1 v2 v3 v4 h = some o) : Bg L xs 147 0 [(0, .ref 0), (1, .int v1), (2, .int v2), (3, .int v3), (4, .int v4)] [] LY88 h ([.int o.1], LY88, o.2) := by
  obtain ⟨R, hR⟩ : ∃ R : List Value × Lay × Hp, R = ([.int o.1], LY88, o.2) := ⟨_, rfl⟩
  rw [← hR]
  refine seg_Bg (pc' := 5) (lv' := [(0, .ref 0), (1, .int v1), (2, .int v2), (3, .int v3), (4, .int v4)]) (st' := [.int v1, .ref 29]) (lay' := LY88) (h' := h) 3 rfl ?_
  refine call_Bg (a := 94) (la := [(0, .ref 29), (1, .int v1)]) (np := 8) (lv' := [(0, .ref 0), (1, .int v1), (2, .int v2), (3, .int v3), (4, .int v4)]) (rest := []) (res := fun r => ([.int r], LY88, h)) rfl e (fun r e => BJsh_holds L xs v1 h r e) (fun c1 e => ?_)
  show Bg L xs 147 8 [(0, .ref 0), (1, .int v1), (2, .int v2), (3, .int v3), (4, .int v4)] [.int c1] LY88 h R
  refine seg_Bg (pc' := (if c1 = 0 then 45 else 11)) (lv' := [(0, .ref 0), (1, .int v1), (2, .int v2), (3, .int v3), (4, .int v4)]) (st' := []) (lay' := LY88) (h' := h) 1 rfl ?_
  refine pc_ite e (fun e => ?_) (fun e => ?_)
  · refine seg_Bg (pc' := 47) (lv' := [(0, .ref 0), (1, .int v1), (2, .int v2), (3, .int v3), (4, .int v4)]) (st' := [.int (-1000000001)]) (lay' := LY88) (h' := h) 1 rfl ?_
    rw [hR, ← Option.some.inj e]; exact ret_Bg rfl
  · refine seg_Bg (pc' := 16) (lv' := [(0, .ref 0), (1, .int v1), (2, .int v2), (3, .int v3), (4, .int v4)]) (st' := [.int v2, .ref 29]) (lay' := LY88) (h' := h) 3 rfl ?_
    refine call_Bg (a := 94) (la := [(0, .ref 29), (1, .int v2)]) (np := 19) (lv' := [(0, .ref 0), (1, .int v1), (2, .int v2), (3, .int v3), (4, .int v4)]) (rest := []) (res := fun r => ([.int r], LY88, h)) rfl e (fun r e => BJsh_holds L xs v2 h r e) (fun c2 e => ?_)
    show Bg L xs 147 19 [(0, .ref 0), (1, .int v1), (2, .int v2), (3, .int v3), (4, .int v4)] [.int c2] LY88 h R
    refine seg_Bg (pc' := (if c2 = 0 then 45 else 22)) (lv' := [(0, .ref 0), (1, .int v1), (2, .int v2), (3, .int v3), (4, .int v4)]) (st' := []) (lay' := LY88) (h' := h) 1 rfl ?_
    refine pc_ite e (fun e => ?_) (fun e => ?_)
    · refine seg_Bg (pc' := 47) (lv' := [(0, .ref 0), (1, .int v1), (2, .int v2), (3, .int v3), (4, .int v4)]) (st' := [.int (-1000000001)]) (lay' := LY88) (h' := h) 1 rfl ?_
      rw [hR, ← Option.some.inj e]; exact ret_Bg rfl
    · refine seg_Bg (pc' := 27) (lv' := [(0, .ref 0), (1, .int v1), (2, .int v2), (3, .int v3), (4, .int v4)]) (st' := [.int v3, .ref 29]) (lay' := LY88) (h' := h) 3 rfl ?_
      refine call_Bg (a := 94) (la := [(0, .ref 29), (1, .int v3)]) (np := 30) (lv' := [(0, .ref 0), (1, .int v1), (2, .int v2), (3, .int v3), (4, .int v4)]) (rest := []) (res := fun r => ([.int r], LY88, h)) rfl e (fun r e => BJsh_holds L xs v3 h r e) (fun c3 e => ?_)
      show Bg L xs 147 30 [(0, .ref 0), (1, .int v1), (2, .int v2), (3, .int v3), (4, .int v4)] [.int c3] LY88 h R
      refine seg_Bg (pc' := (if c3 = 0 then 45 else 33)) (lv' := [(0, .ref 0), (1, .int v1), (2, .int v2), (3, .int v3), (4, .int v4)]) (st' := []) (lay' := LY88) (h' := h) 1 rfl ?_
      refine pc_ite e (fun e => ?_) (fun e => ?_)
      · refine seg_Bg (pc' := 47) (lv' := [(0, .ref 0), (1, .int v1), (2, .int v2), (3, .int v3), (4, .int v4)]) (st' := [.int (-1000000001)]) (lay' := LY88) (h' := h) 1 rfl ?_
        rw [hR, ← Option.some.inj e]; exact ret_Bg rfl
      · refine seg_Bg (pc' := 39) (lv' := [(0, .ref 0), (1, .int v1), (2, .int v2), (3, .int v3), (4, .int v4)]) (st' := [.int v4, .ref 29]) (lay' := LY88) (h' := h) 3 rfl ?_
        refine call_Bg (a := 94) (la := [(0, .ref 29), (1, .int v4)]) (np := 42) (lv' := [(0, .ref 0), (1, .int v1), (2, .int v2), (3, .int v3), (4, .int v4)]) (rest := []) (res := fun r => ([.int r], LY88, h)) rfl e (fun r e => BJsh_holds L xs v4 h r e) (fun c4 e => ?_)
        show Bg L xs 147 42 [(0, .ref 0), (1, .int v1), (2, .int v2), (3, .int v3), (4, .int v4)] [.int c4] LY88 h R
        refine seg_Bg (pc' := (if c4 = 0 then 45 else 48)) (lv' := [(0, .ref 0), (1, .int v1), (2, .int v2), (3, .int v3), (4, .int v4)]) (st' := []) (lay' := LY88) (h' := h) 1 rfl ?_
        refine pc_ite e (fun e => ?_) (fun e => ?_)
        · refine seg_Bg (pc' := 47) (lv' := [(0, .ref 0), (1, .int v1), (2, .int v2), (3, .int v3), (4, .int v4)]) (st' := [.int (-1000000001)]) (lay' := LY88) (h' := h) 1 rfl ?_
          rw [hR, ← Option.some.inj e]; exact ret_Bg rfl
        · refine seg_Bg (pc' := 52) (lv' := [(0, .ref 0), (1, .int v1), (2, .int v2), (3, .int v3), (4, .int v4)]) (st' := [.ref 29]) (lay' := LY88) (h' := h) 2 rfl ?_
          refine call_Bg (a := 93) (la := [(0, .ref 29)]) (np := 55) (lv' := [(0, .ref 0), (1, .int v1), (2, .int v2), (3, .int v3), (4, .int v4)]) (rest := []) (res := fun r => ([.int r], LY88, h)) rfl e (fun r e => BJsh_isFull L xs h r e) (fun c5 e => ?_)
          show Bg L xs 147 55 [(0, .ref 0), (1, .int v1), (2, .int v2), (3, .int v3), (4, .int v4)] [.int c5] LY88 h R
          refine seg_Bg (pc' := (if c5 = 0 then 61 else 58)) (lv' := [(0, .ref 0), (1, .int v1), (2, .int v2), (3, .int v3), (4, .int v4)]) (st' := []) (lay' := LY88) (h' := h) 1 rfl ?_
          refine pc_ite e (fun e => ?_) (fun e => ?_)
          · refine seg_Bg (pc' := 69) (lv' := [(0, .ref 0), (1, .int v1), (2, .int v2), (3, .int v3), (4, .int v4)]) (st' := [.ref 29, .ref 31]) (lay' := LY88) (h' := h) 4 rfl ?_
            refine call_Bg (a := 54) (la := [(0, .ref 31), (1, .ref 29)]) (np := 72) (lv' := [(0, .ref 0), (1, .int v1), (2, .int v2), (3, .int v3), (4, .int v4)]) (rest := []) (res := fun r => ([], LY88, r)) rfl e (fun r e => BJpa_push L xs h r e) (fun c6 e => ?_)
            show Bg L xs 147 72 [(0, .ref 0), (1, .int v1), (2, .int v2), (3, .int v3), (4, .int v4)] [] LY88 c6 R
            refine seg_Bg (pc' := 81) (lv' := [(0, .ref 0), (1, .int v1), (2, .int v2), (3, .int v3), (4, .int v4)]) (st' := [.int v1, .ref 29, .ref 29]) (lay' := LY88) (h' := c6) 5 rfl ?_
            refine call_Bg (a := 95) (la := [(0, .ref 29), (1, .int v1)]) (np := 84) (lv' := [(0, .ref 0), (1, .int v1), (2, .int v2), (3, .int v3), (4, .int v4)]) (rest := [.ref 29]) (res := fun r => ([.int r], LY88, c6)) rfl e (fun r e => BJsh_codeAt L xs v1 c6 r e) (fun c7 e => ?_)
            show Bg L xs 147 84 [(0, .ref 0), (1, .int v1), (2, .int v2), (3, .int v3), (4, .int v4)] [.int c7, .ref 29] LY88 c6 R
            refine seg_Bg (pc' := 89) (lv' := [(0, .ref 0), (1, .int v1), (2, .int v2), (3, .int v3), (4, .int v4)]) (st' := [.int v2, .ref 29, .int c7, .ref 29]) (lay' := LY88) (h' := c6) 3 rfl ?_
            refine call_Bg (a := 95) (la := [(0, .ref 29), (1, .int v2)]) (np := 92) (lv' := [(0, .ref 0), (1, .int v1), (2, .int v2), (3, .int v3), (4, .int v4)]) (rest := [.int c7, .ref 29]) (res := fun r => ([.int r], LY88, c6)) rfl e (fun r e => BJsh_codeAt L xs v2 c6 r e) (fun c8 e => ?_)
            show Bg L xs 147 92 [(0, .ref 0), (1, .int v1), (2, .int v2), (3, .int v3), (4, .int v4)] [.int c8, .int c7, .ref 29] LY88 c6 R
            refine seg_Bg (pc' := 97) (lv' := [(0, .ref 0), (1, .int v1), (2, .int v2), (3, .int v3), (4, .int v4)]) (st' := [.int v3, .ref 29, .int c8, .int c7, .ref 29]) (lay' := LY88) (h' := c6) 3 rfl ?_
            refine call_Bg (a := 95) (la := [(0, .ref 29), (1, .int v3)]) (np := 100) (lv' := [(0, .ref 0), (1, .int v1), (2, .int v2), (3, .int v3), (4, .int v4)]) (rest := [.int c8, .int c7, .ref 29]) (res := fun r => ([.int r], LY88, c6)) rfl e (fun r e => BJsh_codeAt L xs v3 c6 r e) (fun c9 e => ?_)
            show Bg L xs 147 100 [(0, .ref 0), (1, .int v1), (2, .int v2), (3, .int v3), (4, .int v4)] [.int c9, .int c8, .int c7, .ref 29] LY88 c6 R
            refine seg_Bg (pc' := 106) (lv' := [(0, .ref 0), (1, .int v1), (2, .int v2), (3, .int v3), (4, .int v4)]) (st' := [.int v4, .ref 29, .int c9, .int c8, .int c7, .ref 29]) (lay' := LY88) (h' := c6) 3 rfl ?_
            refine call_Bg (a := 95) (la := [(0, .ref 29), (1, .int v4)]) (np := 109) (lv' := [(0, .ref 0), (1, .int v1), (2, .int v2), (3, .int v3), (4, .int v4)]) (rest := [.int c9, .int c8, .int c7, .ref 29]) (res := fun r => ([.int r], LY88, c6)) rfl e (fun r e => BJsh_codeAt L xs v4 c6 r e) (fun c10 e => ?_)
            show Bg L xs 147 109 [(0, .ref 0), (1, .int v1), (2, .int v2), (3, .int v3), (4, .int v4)] [.int c10, .int c9, .int c8, .int c7, .ref 29] LY88 c6 R
            refine call_Bg (a := 8) (la := [(0, .int c7), (1, .int c8), (2, .int c9), (3, .int c10)]) (np := 112) (lv' := [(0, .ref 0), (1, .int v1), (2, .int v2), (3, .int v3), (4, .int v4)]) (rest := [.ref 29]) (res := fun r => ([.int r], LY88, c6)) rfl e (fun r e => BJco_putOn L xs c7 c8 c9 c10 LY88 c6 r e) (fun c11 e => ?_)
            show Bg L xs 147 112 [(0, .ref 0), (1, .int v1), (2, .int v2), (3, .int v3), (4, .int v4)] [.int c11, .ref 29] LY88 c6 R
            refine call_Bg (a := 98) (la := [(0, .ref 29), (1, .int c11)]) (np := 115) (lv' := [(0, .ref 0), (1, .int v1), (2, .int v2), (3, .int v3), (4, .int v4)]) (rest := []) (res := fun r => ([.int r.1], LY88, r.2)) rfl e (fun r e => BJsh_add L xs c11 c6 r e) (fun c12 e => ?_)
            show Bg L xs 147 115 [(0, .ref 0), (1, .int v1), (2, .int v2), (3, .int v3), (4, .int v4)] [.int c12.1] LY88 c12.2 R
            rw [hR, ← Option.some.inj e]; exact ret_Bg rfl
          · refine seg_Bg (pc' := 60) (lv' := [(0, .ref 0), (1, .int v1), (2, .int v2), (3, .int v3), (4, .int v4)]) (st' := [.int (-1000000004)]) (lay' := LY88) (h' := h) 1 rfl ?_
            rw [hR, ← Option.some.inj e]; exact ret_Bg rfl

