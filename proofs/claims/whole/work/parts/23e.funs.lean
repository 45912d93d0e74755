/-! Runs of the small machine are the functions of the methods. (Written by wip/whole/gen3.py.) -/
set_option maxRecDepth 100000 in
theorem BJm_failsOf (L : Nat) (xs : Nat → Int32) (v0 : Int32) (v1 : Int32) (lay : Lay) (h : Hp) (o : Int32) (e : Jm_failsOf v0 v1 = some o) : Bg L xs 183 0 [(0, .int v0), (1, .int v1)] [] lay h ([.int o], lay, h) := by
  obtain ⟨R, hR⟩ : ∃ R : List Value × Lay × Hp, R = ([.int o], lay, h) := ⟨_, rfl⟩
  rw [← hR]
  refine seg_Bg (pc' := (if v1 = 0 then 64 else if v1 = 1 then 79 else if v1 = 2 then 118 else if v1 = 3 then 95 else if v1 = 4 then 95 else if v1 = 5 then 118 else if v1 = 6 then 118 else if v1 = 7 then 101 else if v1 = 8 then 118 else if v1 = 9 then 106 else if v1 = 10 then 118 else if v1 = 11 then 112 else 118)) (lv' := [(0, .int v0), (1, .int v1)]) (st' := []) (lay' := lay) (h' := h) 2 rfl ?_
  refine pc_ite e (fun e => ?_) (fun e => ?_)
  · refine seg_Bg (pc' := 66) (lv' := [(0, .int v0), (1, .int v1)]) (st' := [.int 0, .int v0]) (lay' := lay) (h' := h) 2 rfl ?_
    refine call_Bg (a := 170) (la := [(0, .int v0), (1, .int 0)]) (np := 69) (lv' := [(0, .int v0), (1, .int v1)]) (rest := []) (res := fun r => ([.int r], lay, h)) rfl e (fun r e => BJm_tells L xs v0 0 lay h r e) (fun c1 e => ?_)
    show Bg L xs 183 69 [(0, .int v0), (1, .int v1)] [.int c1] lay h R
    refine seg_Bg (pc' := (if c1 = 1 then 73 else 77)) (lv' := [(0, .int v0), (1, .int v1)]) (st' := []) (lay' := lay) (h' := h) 2 rfl ?_
    refine pc_ite e (fun e => ?_) (fun e => ?_)
    · refine seg_Bg (pc' := 78) (lv' := [(0, .int v0), (1, .int v1)]) (st' := [.int 0]) (lay' := lay) (h' := h) 2 rfl ?_
      rw [hR, ← Option.some.inj e]; exact ret_Bg rfl
    · refine seg_Bg (pc' := 78) (lv' := [(0, .int v0), (1, .int v1)]) (st' := [.int (-1)]) (lay' := lay) (h' := h) 1 rfl ?_
      rw [hR, ← Option.some.inj e]; exact ret_Bg rfl
  · refine pc_ite e (fun e => ?_) (fun e => ?_)
    · refine seg_Bg (pc' := 82) (lv' := [(0, .int v0), (1, .int v1)]) (st' := [.int 7, .int v0]) (lay' := lay) (h' := h) 2 rfl ?_
      refine call_Bg (a := 170) (la := [(0, .int v0), (1, .int 7)]) (np := 85) (lv' := [(0, .int v0), (1, .int v1)]) (rest := []) (res := fun r => ([.int r], lay, h)) rfl e (fun r e => BJm_tells L xs v0 7 lay h r e) (fun c2 e => ?_)
      show Bg L xs 183 85 [(0, .int v0), (1, .int v1)] [.int c2] lay h R
      refine seg_Bg (pc' := (if c2 = 0 then 88 else 93)) (lv' := [(0, .int v0), (1, .int v1)]) (st' := []) (lay' := lay) (h' := h) 1 rfl ?_
      refine pc_ite e (fun e => ?_) (fun e => ?_)
      · refine seg_Bg (pc' := 94) (lv' := [(0, .int v0), (1, .int v1)]) (st' := [.int 7]) (lay' := lay) (h' := h) 2 rfl ?_
        rw [hR, ← Option.some.inj e]; exact ret_Bg rfl
      · refine seg_Bg (pc' := 94) (lv' := [(0, .int v0), (1, .int v1)]) (st' := [.int (-1)]) (lay' := lay) (h' := h) 1 rfl ?_
        rw [hR, ← Option.some.inj e]; exact ret_Bg rfl
    · refine pc_ite e (fun e => ?_) (fun e => ?_)
      · refine seg_Bg (pc' := 120) (lv' := [(0, .int v0), (1, .int v1)]) (st' := [.int v1, .int v0]) (lay' := lay) (h' := h) 2 rfl ?_
        refine call_Bg (a := 179) (la := [(0, .int v0), (1, .int v1)]) (np := 123) (lv' := [(0, .int v0), (1, .int v1)]) (rest := []) (res := fun r => ([.int r], lay, h)) rfl e (fun r e => BJm_failsOfTwo L xs v0 v1 lay h r e) (fun c3 e => ?_)
        show Bg L xs 183 123 [(0, .int v0), (1, .int v1)] [.int c3] lay h R
        rw [hR, ← Option.some.inj e]; exact ret_Bg rfl
      · refine pc_ite e (fun e => ?_) (fun e => ?_)
        · refine seg_Bg (pc' := 97) (lv' := [(0, .int v0), (1, .int v1)]) (st' := [.int v1, .int v0]) (lay' := lay) (h' := h) 2 rfl ?_
          refine call_Bg (a := 181) (la := [(0, .int v0), (1, .int v1)]) (np := 100) (lv' := [(0, .int v0), (1, .int v1)]) (rest := []) (res := fun r => ([.int r], lay, h)) rfl e (fun r e => BJm_failsOfOne L xs v0 v1 lay h r e) (fun c4 e => ?_)
          show Bg L xs 183 100 [(0, .int v0), (1, .int v1)] [.int c4] lay h R
          rw [hR, ← Option.some.inj e]; exact ret_Bg rfl
        · refine pc_ite e (fun e => ?_) (fun e => ?_)
          · refine seg_Bg (pc' := 97) (lv' := [(0, .int v0), (1, .int v1)]) (st' := [.int v1, .int v0]) (lay' := lay) (h' := h) 2 rfl ?_
            refine call_Bg (a := 181) (la := [(0, .int v0), (1, .int v1)]) (np := 100) (lv' := [(0, .int v0), (1, .int v1)]) (rest := []) (res := fun r => ([.int r], lay, h)) rfl e (fun r e => BJm_failsOfOne L xs v0 v1 lay h r e) (fun c5 e => ?_)
            show Bg L xs 183 100 [(0, .int v0), (1, .int v1)] [.int c5] lay h R
            rw [hR, ← Option.some.inj e]; exact ret_Bg rfl
          · refine pc_ite e (fun e => ?_) (fun e => ?_)
            · refine seg_Bg (pc' := 120) (lv' := [(0, .int v0), (1, .int v1)]) (st' := [.int v1, .int v0]) (lay' := lay) (h' := h) 2 rfl ?_
              refine call_Bg (a := 179) (la := [(0, .int v0), (1, .int v1)]) (np := 123) (lv' := [(0, .int v0), (1, .int v1)]) (rest := []) (res := fun r => ([.int r], lay, h)) rfl e (fun r e => BJm_failsOfTwo L xs v0 v1 lay h r e) (fun c6 e => ?_)
              show Bg L xs 183 123 [(0, .int v0), (1, .int v1)] [.int c6] lay h R
              rw [hR, ← Option.some.inj e]; exact ret_Bg rfl
            · refine pc_ite e (fun e => ?_) (fun e => ?_)
              · refine seg_Bg (pc' := 120) (lv' := [(0, .int v0), (1, .int v1)]) (st' := [.int v1, .int v0]) (lay' := lay) (h' := h) 2 rfl ?_
                refine call_Bg (a := 179) (la := [(0, .int v0), (1, .int v1)]) (np := 123) (lv' := [(0, .int v0), (1, .int v1)]) (rest := []) (res := fun r => ([.int r], lay, h)) rfl e (fun r e => BJm_failsOfTwo L xs v0 v1 lay h r e) (fun c7 e => ?_)
                show Bg L xs 183 123 [(0, .int v0), (1, .int v1)] [.int c7] lay h R
                rw [hR, ← Option.some.inj e]; exact ret_Bg rfl
              · refine pc_ite e (fun e => ?_) (fun e => ?_)
                · refine seg_Bg (pc' := 102) (lv' := [(0, .int v0), (1, .int v1)]) (st' := [.int v0]) (lay' := lay) (h' := h) 1 rfl ?_
                  refine call_Bg (a := 182) (la := [(0, .int v0)]) (np := 105) (lv' := [(0, .int v0), (1, .int v1)]) (rest := []) (res := fun r => ([.int r], lay, h)) rfl e (fun r e => BJm_failsOfHanging L xs v0 lay h r e) (fun c8 e => ?_)
                  show Bg L xs 183 105 [(0, .int v0), (1, .int v1)] [.int c8] lay h R
                  rw [hR, ← Option.some.inj e]; exact ret_Bg rfl
                · refine pc_ite e (fun e => ?_) (fun e => ?_)
                  · refine seg_Bg (pc' := 120) (lv' := [(0, .int v0), (1, .int v1)]) (st' := [.int v1, .int v0]) (lay' := lay) (h' := h) 2 rfl ?_
                    refine call_Bg (a := 179) (la := [(0, .int v0), (1, .int v1)]) (np := 123) (lv' := [(0, .int v0), (1, .int v1)]) (rest := []) (res := fun r => ([.int r], lay, h)) rfl e (fun r e => BJm_failsOfTwo L xs v0 v1 lay h r e) (fun c9 e => ?_)
                    show Bg L xs 183 123 [(0, .int v0), (1, .int v1)] [.int c9] lay h R
                    rw [hR, ← Option.some.inj e]; exact ret_Bg rfl
                  · refine pc_ite e (fun e => ?_) (fun e => ?_)
                    · refine seg_Bg (pc' := 108) (lv' := [(0, .int v0), (1, .int v1)]) (st' := [.int 1, .int v0]) (lay' := lay) (h' := h) 2 rfl ?_
                      refine call_Bg (a := 180) (la := [(0, .int v0), (1, .int 1)]) (np := 111) (lv' := [(0, .int v0), (1, .int v1)]) (rest := []) (res := fun r => ([.int r], lay, h)) rfl e (fun r e => BJm_failsOfThree L xs v0 1 lay h r e) (fun c10 e => ?_)
                      show Bg L xs 183 111 [(0, .int v0), (1, .int v1)] [.int c10] lay h R
                      rw [hR, ← Option.some.inj e]; exact ret_Bg rfl
                    · refine pc_ite e (fun e => ?_) (fun e => ?_)
                      · refine seg_Bg (pc' := 120) (lv' := [(0, .int v0), (1, .int v1)]) (st' := [.int v1, .int v0]) (lay' := lay) (h' := h) 2 rfl ?_
                        refine call_Bg (a := 179) (la := [(0, .int v0), (1, .int v1)]) (np := 123) (lv' := [(0, .int v0), (1, .int v1)]) (rest := []) (res := fun r => ([.int r], lay, h)) rfl e (fun r e => BJm_failsOfTwo L xs v0 v1 lay h r e) (fun c11 e => ?_)
                        show Bg L xs 183 123 [(0, .int v0), (1, .int v1)] [.int c11] lay h R
                        rw [hR, ← Option.some.inj e]; exact ret_Bg rfl
                      · refine pc_ite e (fun e => ?_) (fun e => ?_)
                        · refine seg_Bg (pc' := 114) (lv' := [(0, .int v0), (1, .int v1)]) (st' := [.int 0, .int v0]) (lay' := lay) (h' := h) 2 rfl ?_
                          refine call_Bg (a := 180) (la := [(0, .int v0), (1, .int 0)]) (np := 117) (lv' := [(0, .int v0), (1, .int v1)]) (rest := []) (res := fun r => ([.int r], lay, h)) rfl e (fun r e => BJm_failsOfThree L xs v0 0 lay h r e) (fun c12 e => ?_)
                          show Bg L xs 183 117 [(0, .int v0), (1, .int v1)] [.int c12] lay h R
                          rw [hR, ← Option.some.inj e]; exact ret_Bg rfl
                        · refine seg_Bg (pc' := 120) (lv' := [(0, .int v0), (1, .int v1)]) (st' := [.int v1, .int v0]) (lay' := lay) (h' := h) 2 rfl ?_
                          refine call_Bg (a := 179) (la := [(0, .int v0), (1, .int v1)]) (np := 123) (lv' := [(0, .int v0), (1, .int v1)]) (rest := []) (res := fun r => ([.int r], lay, h)) rfl e (fun r e => BJm_failsOfTwo L xs v0 v1 lay h r e) (fun c13 e => ?_)
                          show Bg L xs 183 123 [(0, .int v0), (1, .int v1)] [.int c13] lay h R
                          rw [hR, ← Option.some.inj e]; exact ret_Bg rfl

set_option maxRecDepth 100000 in
theorem BJm_layTraits_L18_s (L : Nat) (xs : Nat → Int32) (v1 : Int32) (R : List Value × Lay × Hp) (v2 : Int32) (h : Hp) (o : ((Int32 × Hp) ⊕ (Int32 × Hp))) (hH : ∀ s : Int32 × Hp, o = .inl s → Bg L xs 184 18 [(0, .ref 37), (1, .int v1), (2, .int s.1)] [] LY88 s.2 R) (hE : ∀ t : Int32 × Hp, o = .inr t → Bg L xs 184 54 [(0, .ref 37), (1, .int v1), (2, .int t.1)] [] LY88 t.2 R) (e : Jm_layTraits_L18 v1 v2 h = some o) : Bg L xs 184 18 [(0, .ref 37), (1, .int v1), (2, .int v2)] [] LY88 h R := by
  refine seg_Bg (pc' := (if v2 < 12 then 24 else 54)) (lv' := [(0, .ref 37), (1, .int v1), (2, .int v2)]) (st' := []) (lay' := LY88) (h' := h) 3 rfl ?_
  refine pc_ite e (fun e => ?_) (fun e => ?_)
  · refine seg_Bg (pc' := 30) (lv' := [(0, .ref 37), (1, .int v1), (2, .int v2)]) (st' := [.int v1, .ref 43, .int v1, .ref 43]) (lay' := LY88) (h' := h) 4 rfl ?_
    refine gd_Bg (pc' := 31) (lv' := [(0, .ref 37), (1, .int v1), (2, .int v2)]) (st' := [.int (h 43 (Int32.toNatClampNeg v1)), .int v1, .ref 43]) (lay' := LY88) (h' := h) (g := ibB v1 256) rfl e fun e => ?_
    refine seg_Bg (pc' := 33) (lv' := [(0, .ref 37), (1, .int v1), (2, .int v2)]) (st' := [.int v2, .int v1, .int (h 43 (Int32.toNatClampNeg v1)), .int v1, .ref 43]) (lay' := LY88) (h' := h) 2 rfl ?_
    refine call_Bg (a := 183) (la := [(0, .int v1), (1, .int v2)]) (np := 36) (lv' := [(0, .ref 37), (1, .int v1), (2, .int v2)]) (rest := [.int (h 43 (Int32.toNatClampNeg v1)), .int v1, .ref 43]) (res := fun r => ([.int r], LY88, h)) rfl e (fun r e => BJm_failsOf L xs v1 v2 LY88 h r e) (fun c1 e => ?_)
    show Bg L xs 184 36 [(0, .ref 37), (1, .int v1), (2, .int v2)] [.int c1, .int (h 43 (Int32.toNatClampNeg v1)), .int v1, .ref 43] LY88 h R
    refine seg_Bg (pc' := (if c1 < 0 then 39 else 45)) (lv' := [(0, .ref 37), (1, .int v1), (2, .int v2)]) (st' := [.int (h 43 (Int32.toNatClampNeg v1)), .int v1, .ref 43]) (lay' := LY88) (h' := h) 1 rfl ?_
    refine pc_ite e (fun e => ?_) (fun e => ?_)
    · refine seg_Bg (pc' := 47) (lv' := [(0, .ref 37), (1, .int v1), (2, .int v2)]) (st' := [.int ((h 43 (Int32.toNatClampNeg v1)) ||| ((1 : Int32) <<< (v2 &&& 31) : Int32)), .int v1, .ref 43]) (lay' := LY88) (h' := h) 5 rfl ?_
      refine gp_Bg (pc' := 48) (lv' := [(0, .ref 37), (1, .int v1), (2, .int v2)]) (st' := []) (lay' := LY88) (x := hset h 43 (Int32.toNatClampNeg v1) ((h 43 (Int32.toNatClampNeg v1)) ||| ((1 : Int32) <<< (v2 &&& 31) : Int32))) (g := ibB v1 256) rfl e fun h2 e => ?_
      refine seg_Bg (pc' := 18) (lv' := [(0, .ref 37), (1, .int v1), (2, .int (v2 + 1))]) (st' := []) (lay' := LY88) (h' := h2) 2 rfl ?_
      exact hH (v2 + 1, h2) (Option.some.inj e).symm
    · refine seg_Bg (pc' := 47) (lv' := [(0, .ref 37), (1, .int v1), (2, .int v2)]) (st' := [.int ((h 43 (Int32.toNatClampNeg v1)) ||| (0 : Int32)), .int v1, .ref 43]) (lay' := LY88) (h' := h) 2 rfl ?_
      refine gp_Bg (pc' := 48) (lv' := [(0, .ref 37), (1, .int v1), (2, .int v2)]) (st' := []) (lay' := LY88) (x := hset h 43 (Int32.toNatClampNeg v1) ((h 43 (Int32.toNatClampNeg v1)) ||| (0 : Int32))) (g := ibB v1 256) rfl e fun h3 e => ?_
      refine seg_Bg (pc' := 18) (lv' := [(0, .ref 37), (1, .int v1), (2, .int (v2 + 1))]) (st' := []) (lay' := LY88) (h' := h3) 2 rfl ?_
      exact hH (v2 + 1, h3) (Option.some.inj e).symm
  · exact hE (v2, h) (Option.some.inj e).symm
theorem BJm_layTraits_L18 (L : Nat) (xs : Nat → Int32) (v1 : Int32) (R : List Value × Lay × Hp) (C : (Int32 × Hp) → Prop) (hE : ∀ t : Int32 × Hp, C t → Bg L xs 184 54 [(0, .ref 37), (1, .int v1), (2, .int t.1)] [] LY88 t.2 R) (n : Nat) (s : Int32 × Hp) (o : (Int32 × Hp)) (e : loopN n (fun s => Jm_layTraits_L18 v1 s.1 s.2) s = some o) (hC : C o) : Bg L xs 184 18 [(0, .ref 37), (1, .int v1), (2, .int s.1)] [] LY88 s.2 R := by
  refine loop_B (fun s => Jm_layTraits_L18 v1 s.1 s.2) (fun s : Int32 × Hp => Bg L xs 184 18 [(0, .ref 37), (1, .int v1), (2, .int s.1)] [] LY88 s.2 R) C (fun s o e => ?_) n s o e hC
  intro hK
  refine BJm_layTraits_L18_s L xs v1 R s.1 s.2 o (fun s q => by subst q; exact hK) (fun t q => by subst q; exact hE t hK) e
set_option maxRecDepth 100000 in
theorem BJm_layTraits_L2_s (L : Nat) (xs : Nat → Int32) (R : List Value × Lay × Hp) (v1 : Int32) (h : Hp) (o : ((Int32 × Hp) ⊕ (Int32 × Hp))) (hH : ∀ s : Int32 × Hp, o = .inl s → Bg L xs 184 2 [(0, .ref 37), (1, .int s.1)] [] LY88 s.2 R) (hE : ∀ t : Int32 × Hp, o = .inr t → Bg L xs 184 60 [(0, .ref 37), (1, .int t.1)] [] LY88 t.2 R) (e : Jm_layTraits_L2 v1 h = some o) : Bg L xs 184 2 [(0, .ref 37), (1, .int v1)] [] LY88 h R := by
  refine seg_Bg (pc' := (if v1 < 256 then 9 else 60)) (lv' := [(0, .ref 37), (1, .int v1)]) (st' := []) (lay' := LY88) (h' := h) 3 rfl ?_
  refine pc_ite e (fun e => ?_) (fun e => ?_)
  · refine seg_Bg (pc' := (if (h 37 12) = 0 then 16 else 60)) (lv' := [(0, .ref 37), (1, .int v1)]) (st' := []) (lay' := LY88) (h' := h) 3 rfl ?_
    refine pc_ite e (fun e => ?_) (fun e => ?_)
    · refine seg_Bg (pc' := 18) (lv' := [(0, .ref 37), (1, .int v1), (2, .int 0)]) (st' := []) (lay' := LY88) (h' := h) 2 rfl ?_
      obtain ⟨t4o, et4o, e⟩ := bd_s e
      refine BJm_layTraits_L18 L xs v1 R (fun (t4 : Int32 × Hp) => (some (.inl (v1 + 1, t4.2))) = some o) (fun t4 e => ?_) 1000000 (0, h) _ et4o e
      refine seg_Bg (pc' := 2) (lv' := [(0, .ref 37), (1, .int (v1 + 1)), (2, .int t4.1)]) (st' := []) (lay' := LY88) (h' := t4.2) 2 rfl ?_
      refine kp_Bg (lv' := [(0, .ref 37), (1, .int (v1 + 1))]) rfl rfl ?_
      exact hH (v1 + 1, t4.2) (Option.some.inj e).symm
    · exact hE (v1, h) (Option.some.inj e).symm
  · exact hE (v1, h) (Option.some.inj e).symm
theorem BJm_layTraits_L2 (L : Nat) (xs : Nat → Int32) (R : List Value × Lay × Hp) (C : (Int32 × Hp) → Prop) (hE : ∀ t : Int32 × Hp, C t → Bg L xs 184 60 [(0, .ref 37), (1, .int t.1)] [] LY88 t.2 R) (n : Nat) (s : Int32 × Hp) (o : (Int32 × Hp)) (e : loopN n (fun s => Jm_layTraits_L2 s.1 s.2) s = some o) (hC : C o) : Bg L xs 184 2 [(0, .ref 37), (1, .int s.1)] [] LY88 s.2 R := by
  refine loop_B (fun s => Jm_layTraits_L2 s.1 s.2) (fun s : Int32 × Hp => Bg L xs 184 2 [(0, .ref 37), (1, .int s.1)] [] LY88 s.2 R) C (fun s o e => ?_) n s o e hC
  intro hK
  refine BJm_layTraits_L2_s L xs R s.1 s.2 o (fun s q => by subst q; exact hK) (fun t q => by subst q; exact hE t hK) e
set_option maxRecDepth 100000 in
theorem BJm_layTraits (L : Nat) (xs : Nat → Int32) (h : Hp) (o : Hp) (e : Jm_layTraits h = some o) : Bg L xs 184 0 [(0, .ref 37)] [] LY88 h ([], LY88, o) := by
  obtain ⟨R, hR⟩ : ∃ R : List Value × Lay × Hp, R = ([], LY88, o) := ⟨_, rfl⟩
  rw [← hR]
  refine seg_Bg (pc' := 2) (lv' := [(0, .ref 37), (1, .int 0)]) (st' := []) (lay' := LY88) (h' := h) 2 rfl ?_
  obtain ⟨t5o, et5o, e⟩ := bd_s e
  refine BJm_layTraits_L2 L xs R (fun (t5 : Int32 × Hp) => (lt (hset t5.2 37 12 1) fun h6 => some h6) = some o) (fun t5 e => ?_) 1000000 (0, h) _ et5o e
  refine seg_Bg (pc' := 62) (lv' := [(0, .ref 37), (1, .int t5.1)]) (st' := [.int 1, .ref 37]) (lay' := LY88) (h' := t5.2) 2 rfl ?_
  refine put_Bg (pc' := 65) (lv' := [(0, .ref 37), (1, .int t5.1)]) (st' := []) (lay' := LY88) (x := hset t5.2 37 12 1) rfl e fun h6 e => ?_
  rw [hR, ← Option.some.inj e]; exact ret_Bg rfl

set_option maxRecDepth 100000 in
theorem BJm_common_L10_s (L : Nat) (xs : Nat → Int32) (v1 : Int32) (h : Hp) (R : List Value × Lay × Hp) (v2 v3 : Int32) (o : ((Int32 × Int32) ⊕ (Int32 × Int32))) (hH : ∀ s : Int32 × Int32, o = .inl s → Bg L xs 208 10 [(0, .ref 37), (1, .int v1), (2, .int s.1), (3, .int s.2)] [] LY88 h R) (hE : ∀ t : Int32 × Int32, o = .inr t → Bg L xs 208 67 [(0, .ref 37), (1, .int v1), (2, .int t.1), (3, .int t.2)] [] LY88 h R) (e : Jm_common_L10 v1 h v2 v3 = some o) : Bg L xs 208 10 [(0, .ref 37), (1, .int v1), (2, .int v2), (3, .int v3)] [] LY88 h R := by
  refine seg_Bg (pc' := (if v3 < (h 38 0) then 20 else 67)) (lv' := [(0, .ref 37), (1, .int v1), (2, .int v2), (3, .int v3)]) (st' := []) (lay' := LY88) (h' := h) 6 rfl ?_
  refine pc_ite e (fun e => ?_) (fun e => ?_)
  · refine seg_Bg (pc' := 29) (lv' := [(0, .ref 37), (1, .int v1), (2, .int v2), (3, .int v3)]) (st' := [.int v3, .int (h 38 7), .int v2]) (lay' := LY88) (h' := h) 6 rfl ?_
    refine call_Bg (a := 167) (la := [(0, .int (h 38 7)), (1, .int v3)]) (np := 32) (lv' := [(0, .ref 37), (1, .int v1), (2, .int v2), (3, .int v3)]) (rest := [.int v2]) (res := fun r => ([.int r], LY88, h)) rfl e (fun r e => BJm_has L xs (h 38 7) v3 LY88 h r e) (fun c2 e => ?_)
    show Bg L xs 208 32 [(0, .ref 37), (1, .int v1), (2, .int v2), (3, .int v3)] [.int c2, .int v2] LY88 h R
    refine seg_Bg (pc' := (if c2 = 0 then 56 else 35)) (lv' := [(0, .ref 37), (1, .int v1), (2, .int v2), (3, .int v3)]) (st' := [.int v2]) (lay' := LY88) (h' := h) 1 rfl ?_
    refine pc_ite e (fun e => ?_) (fun e => ?_)
    · refine seg_Bg (pc' := 10) (lv' := [(0, .ref 37), (1, .int v1), (2, .int (v2 &&& (4095 : Int32))), (3, .int (v3 + 1))]) (st' := []) (lay' := LY88) (h' := h) 5 rfl ?_
      exact hH (v2 &&& (4095 : Int32), v3 + 1) (Option.some.inj e).symm
    · refine seg_Bg (pc' := (if v3 = v1 then 56 else 40)) (lv' := [(0, .ref 37), (1, .int v1), (2, .int v2), (3, .int v3)]) (st' := [.int v2]) (lay' := LY88) (h' := h) 3 rfl ?_
      refine pc_ite e (fun e => ?_) (fun e => ?_)
      · refine seg_Bg (pc' := 10) (lv' := [(0, .ref 37), (1, .int v1), (2, .int (v2 &&& (4095 : Int32))), (3, .int (v3 + 1))]) (st' := []) (lay' := LY88) (h' := h) 5 rfl ?_
        exact hH (v2 &&& (4095 : Int32), v3 + 1) (Option.some.inj e).symm
      · refine seg_Bg (pc' := 51) (lv' := [(0, .ref 37), (1, .int v1), (2, .int v2), (3, .int v3)]) (st' := [.int ((1 : Int32) + v3), .ref 38, .ref 43, .int v2]) (lay' := LY88) (h' := h) 7 rfl ?_
        refine gd_Bg (pc' := 52) (lv' := [(0, .ref 37), (1, .int v1), (2, .int v2), (3, .int v3)]) (st' := [.int (h 38 (Int32.toNatClampNeg ((1 : Int32) + v3))), .ref 43, .int v2]) (lay' := LY88) (h' := h) (g := ibB ((1 : Int32) + v3) 152) rfl e fun e => ?_
        refine gd_Bg (pc' := 53) (lv' := [(0, .ref 37), (1, .int v1), (2, .int v2), (3, .int v3)]) (st' := [.int (h 43 (Int32.toNatClampNeg (h 38 (Int32.toNatClampNeg ((1 : Int32) + v3))))), .int v2]) (lay' := LY88) (h' := h) (g := ibB (h 38 (Int32.toNatClampNeg ((1 : Int32) + v3))) 256) rfl e fun e => ?_
        refine seg_Bg (pc' := 10) (lv' := [(0, .ref 37), (1, .int v1), (2, .int (v2 &&& (h 43 (Int32.toNatClampNeg (h 38 (Int32.toNatClampNeg ((1 : Int32) + v3))))))), (3, .int (v3 + 1))]) (st' := []) (lay' := LY88) (h' := h) 5 rfl ?_
        exact hH (v2 &&& (h 43 (Int32.toNatClampNeg (h 38 (Int32.toNatClampNeg ((1 : Int32) + v3))))), v3 + 1) (Option.some.inj e).symm
  · exact hE (v2, v3) (Option.some.inj e).symm
theorem BJm_common_L10 (L : Nat) (xs : Nat → Int32) (v1 : Int32) (h : Hp) (R : List Value × Lay × Hp) (C : (Int32 × Int32) → Prop) (hE : ∀ t : Int32 × Int32, C t → Bg L xs 208 67 [(0, .ref 37), (1, .int v1), (2, .int t.1), (3, .int t.2)] [] LY88 h R) (n : Nat) (s : Int32 × Int32) (o : (Int32 × Int32)) (e : loopN n (fun s => Jm_common_L10 v1 h s.1 s.2) s = some o) (hC : C o) : Bg L xs 208 10 [(0, .ref 37), (1, .int v1), (2, .int s.1), (3, .int s.2)] [] LY88 h R := by
  refine loop_B (fun s => Jm_common_L10 v1 h s.1 s.2) (fun s : Int32 × Int32 => Bg L xs 208 10 [(0, .ref 37), (1, .int v1), (2, .int s.1), (3, .int s.2)] [] LY88 h R) C (fun s o e => ?_) n s o e hC
  intro hK
  refine BJm_common_L10_s L xs v1 h R s.1 s.2 o (fun s q => by subst q; exact hK) (fun t q => by subst q; exact hE t hK) e
set_option maxRecDepth 100000 in
theorem BJm_common (L : Nat) (xs : Nat → Int32) (v1 : Int32) (h : Hp) (o : Int32 × Hp) (e : Jm_common v1 h = some o) : Bg L xs 208 0 [(0, .ref 37), (1, .int v1)] [] LY88 h ([.int o.1], LY88, o.2) := by
  obtain ⟨R, hR⟩ : ∃ R : List Value × Lay × Hp, R = ([.int o.1], LY88, o.2) := ⟨_, rfl⟩
  rw [← hR]
  refine seg_Bg (pc' := 1) (lv' := [(0, .ref 37), (1, .int v1)]) (st' := [.ref 37]) (lay' := LY88) (h' := h) 1 rfl ?_
  refine call_Bg (a := 184) (la := [(0, .ref 37)]) (np := 4) (lv' := [(0, .ref 37), (1, .int v1)]) (rest := []) (res := fun r => ([], LY88, r)) rfl e (fun r e => BJm_layTraits L xs h r e) (fun c1 e => ?_)
  show Bg L xs 208 4 [(0, .ref 37), (1, .int v1)] [] LY88 c1 R
  refine seg_Bg (pc' := 10) (lv' := [(0, .ref 37), (1, .int v1), (2, .int 4095), (3, .int 0)]) (st' := []) (lay' := LY88) (h' := c1) 4 rfl ?_
  obtain ⟨t3o, et3o, e⟩ := bd_s e
  refine BJm_common_L10 L xs v1 c1 R (fun (t3 : Int32 × Int32) => (some (t3.1, c1)) = some o) (fun t3 e => ?_) 1000000 (4095, 0) _ et3o e
  refine seg_Bg (pc' := 68) (lv' := [(0, .ref 37), (1, .int v1), (2, .int t3.1), (3, .int t3.2)]) (st' := [.int t3.1]) (lay' := LY88) (h' := c1) 1 rfl ?_
  rw [hR, ← Option.some.inj e]; exact ret_Bg rfl

set_option maxRecDepth 100000 in
theorem BJm_hasAll (L : Nat) (xs : Nat → Int32) (v0 : Int32) (v1 : Int32) (lay : Lay) (h : Hp) (o : Int32) (e : Jm_hasAll v0 v1 = some o) : Bg L xs 185 0 [(0, .int v0), (1, .int v1)] [] lay h ([.int o], lay, h) := by
  obtain ⟨R, hR⟩ : ∃ R : List Value × Lay × Hp, R = ([.int o], lay, h) := ⟨_, rfl⟩
  rw [← hR]
  refine seg_Bg (pc' := (if (v0 &&& v1) = v1 then 7 else 11)) (lv' := [(0, .int v0), (1, .int v1)]) (st' := []) (lay' := lay) (h' := h) 5 rfl ?_
  refine pc_ite e (fun e => ?_) (fun e => ?_)
  · refine seg_Bg (pc' := 12) (lv' := [(0, .int v0), (1, .int v1)]) (st' := [.int 1]) (lay' := lay) (h' := h) 2 rfl ?_
    rw [hR, ← Option.some.inj e]; exact ret_Bg rfl
  · refine seg_Bg (pc' := 12) (lv' := [(0, .int v0), (1, .int v1)]) (st' := [.int 0]) (lay' := lay) (h' := h) 1 rfl ?_
    rw [hR, ← Option.some.inj e]; exact ret_Bg rfl

set_option maxRecDepth 100000 in
theorem BJm_shut_L6_s (L : Nat) (xs : Nat → Int32) (v1 : Int32) (h : Hp) (R : List Value × Lay × Hp) (v2 v3 : Int32) (o : ((Int32 × Int32) ⊕ (Int32 × Int32))) (hH : ∀ s : Int32 × Int32, o = .inl s → Bg L xs 186 6 [(0, .ref 37), (1, .int v1), (2, .int s.1), (3, .int s.2)] [] LY88 h R) (hE : ∀ t : Int32 × Int32, o = .inr t → Bg L xs 186 47 [(0, .ref 37), (1, .int v1), (2, .int t.1), (3, .int t.2)] [] LY88 h R) (e : Jm_shut_L6 v1 h v2 v3 = some o) : Bg L xs 186 6 [(0, .ref 37), (1, .int v1), (2, .int v2), (3, .int v3)] [] LY88 h R := by
  refine seg_Bg (pc' := (if v3 < 256 then 13 else 47)) (lv' := [(0, .ref 37), (1, .int v1), (2, .int v2), (3, .int v3)]) (st' := []) (lay' := LY88) (h' := h) 3 rfl ?_
  refine pc_ite e (fun e => ?_) (fun e => ?_)
  · refine seg_Bg (pc' := 19) (lv' := [(0, .ref 37), (1, .int v1), (2, .int v2), (3, .int v3)]) (st' := [.int v3, .ref 43, .int v2]) (lay' := LY88) (h' := h) 4 rfl ?_
    refine gd_Bg (pc' := 20) (lv' := [(0, .ref 37), (1, .int v1), (2, .int v2), (3, .int v3)]) (st' := [.int (h 43 (Int32.toNatClampNeg v3)), .int v2]) (lay' := LY88) (h' := h) (g := ibB v3 256) rfl e fun e => ?_
    refine seg_Bg (pc' := 21) (lv' := [(0, .ref 37), (1, .int v1), (2, .int v2), (3, .int v3)]) (st' := [.int v1, .int (h 43 (Int32.toNatClampNeg v3)), .int v2]) (lay' := LY88) (h' := h) 1 rfl ?_
    refine call_Bg (a := 185) (la := [(0, .int (h 43 (Int32.toNatClampNeg v3))), (1, .int v1)]) (np := 24) (lv' := [(0, .ref 37), (1, .int v1), (2, .int v2), (3, .int v3)]) (rest := [.int v2]) (res := fun r => ([.int r], LY88, h)) rfl e (fun r e => BJm_hasAll L xs (h 43 (Int32.toNatClampNeg v3)) v1 LY88 h r e) (fun c1 e => ?_)
    show Bg L xs 186 24 [(0, .ref 37), (1, .int v1), (2, .int v2), (3, .int v3)] [.int c1, .int v2] LY88 h R
    refine seg_Bg (pc' := (if c1 = 0 then 36 else 27)) (lv' := [(0, .ref 37), (1, .int v1), (2, .int v2), (3, .int v3)]) (st' := [.int v2]) (lay' := LY88) (h' := h) 1 rfl ?_
    refine pc_ite e (fun e => ?_) (fun e => ?_)
    · refine seg_Bg (pc' := 6) (lv' := [(0, .ref 37), (1, .int v1), (2, .int (v2 &&& (4095 : Int32))), (3, .int (v3 + 1))]) (st' := []) (lay' := LY88) (h' := h) 5 rfl ?_
      exact hH (v2 &&& (4095 : Int32), v3 + 1) (Option.some.inj e).symm
    · refine seg_Bg (pc' := 32) (lv' := [(0, .ref 37), (1, .int v1), (2, .int v2), (3, .int v3)]) (st' := [.int v3, .ref 43, .int v2]) (lay' := LY88) (h' := h) 3 rfl ?_
      refine gd_Bg (pc' := 33) (lv' := [(0, .ref 37), (1, .int v1), (2, .int v2), (3, .int v3)]) (st' := [.int (h 43 (Int32.toNatClampNeg v3)), .int v2]) (lay' := LY88) (h' := h) (g := ibB v3 256) rfl e fun e => ?_
      refine seg_Bg (pc' := 6) (lv' := [(0, .ref 37), (1, .int v1), (2, .int (v2 &&& (h 43 (Int32.toNatClampNeg v3)))), (3, .int (v3 + 1))]) (st' := []) (lay' := LY88) (h' := h) 5 rfl ?_
      exact hH (v2 &&& (h 43 (Int32.toNatClampNeg v3)), v3 + 1) (Option.some.inj e).symm
  · exact hE (v2, v3) (Option.some.inj e).symm
theorem BJm_shut_L6 (L : Nat) (xs : Nat → Int32) (v1 : Int32) (h : Hp) (R : List Value × Lay × Hp) (C : (Int32 × Int32) → Prop) (hE : ∀ t : Int32 × Int32, C t → Bg L xs 186 47 [(0, .ref 37), (1, .int v1), (2, .int t.1), (3, .int t.2)] [] LY88 h R) (n : Nat) (s : Int32 × Int32) (o : (Int32 × Int32)) (e : loopN n (fun s => Jm_shut_L6 v1 h s.1 s.2) s = some o) (hC : C o) : Bg L xs 186 6 [(0, .ref 37), (1, .int v1), (2, .int s.1), (3, .int s.2)] [] LY88 h R := by
  refine loop_B (fun s => Jm_shut_L6 v1 h s.1 s.2) (fun s : Int32 × Int32 => Bg L xs 186 6 [(0, .ref 37), (1, .int v1), (2, .int s.1), (3, .int s.2)] [] LY88 h R) C (fun s o e => ?_) n s o e hC
  intro hK
  refine BJm_shut_L6_s L xs v1 h R s.1 s.2 o (fun s q => by subst q; exact hK) (fun t q => by subst q; exact hE t hK) e
set_option maxRecDepth 100000 in
theorem BJm_shut (L : Nat) (xs : Nat → Int32) (v1 : Int32) (h : Hp) (o : Int32) (e : Jm_shut v1 h = some o) : Bg L xs 186 0 [(0, .ref 37), (1, .int v1)] [] LY88 h ([.int o], LY88, h) := by
  obtain ⟨R, hR⟩ : ∃ R : List Value × Lay × Hp, R = ([.int o], LY88, h) := ⟨_, rfl⟩
  rw [← hR]
  refine seg_Bg (pc' := 6) (lv' := [(0, .ref 37), (1, .int v1), (2, .int 4095), (3, .int 0)]) (st' := []) (lay' := LY88) (h' := h) 4 rfl ?_
  obtain ⟨t2o, et2o, e⟩ := bd_s e
  refine BJm_shut_L6 L xs v1 h R (fun (t2 : Int32 × Int32) => (some t2.1) = some o) (fun t2 e => ?_) 1000000 (4095, 0) _ et2o e
  refine seg_Bg (pc' := 48) (lv' := [(0, .ref 37), (1, .int v1), (2, .int t2.1), (3, .int t2.2)]) (st' := [.int t2.1]) (lay' := LY88) (h' := h) 1 rfl ?_
  rw [hR, ← Option.some.inj e]; exact ret_Bg rfl

set_option maxRecDepth 100000 in
theorem BJm_layPlaces_L13_s (L : Nat) (xs : Nat → Int32) (R : List Value × Lay × Hp) (v1 : Int32) (h : Hp) (o : ((Int32 × Hp) ⊕ (Hp))) (hH : ∀ s : Int32 × Hp, o = .inl s → Bg L xs 187 13 [(0, .ref 37), (1, .int s.1)] [] LY88 s.2 R) (hE : ∀ t : Hp, o = .inr t → Bg L xs 187 65 [(0, .ref 37)] [] LY88 t R) (e : Jm_layPlaces_L13 v1 h = some o) : Bg L xs 187 13 [(0, .ref 37), (1, .int v1)] [] LY88 h R := by
  refine seg_Bg (pc' := (if 4095 < v1 then 65 else 20)) (lv' := [(0, .ref 37), (1, .int v1)]) (st' := []) (lay' := LY88) (h' := h) 3 rfl ?_
  refine pc_ite e (fun e => ?_) (fun e => ?_)
  · refine kp_Bg (lv' := [(0, .ref 37)]) rfl rfl ?_
    exact hE h (Option.some.inj e).symm
  · refine seg_Bg (pc' := 22) (lv' := [(0, .ref 37), (1, .int v1)]) (st' := [.int v1, .ref 37]) (lay' := LY88) (h' := h) 2 rfl ?_
    refine call_Bg (a := 186) (la := [(0, .ref 37), (1, .int v1)]) (np := 25) (lv' := [(0, .ref 37), (1, .int v1)]) (rest := []) (res := fun r => ([.int r], LY88, h)) rfl e (fun r e => BJm_shut L xs v1 h r e) (fun c2 e => ?_)
    show Bg L xs 187 25 [(0, .ref 37), (1, .int v1)] [.int c2] LY88 h R
    refine seg_Bg (pc' := (if c2 = v1 then 29 else 59)) (lv' := [(0, .ref 37), (1, .int v1)]) (st' := []) (lay' := LY88) (h' := h) 2 rfl ?_
    refine pc_ite e (fun e => ?_) (fun e => ?_)
    · refine seg_Bg (pc' := (if (h 37 14) < 512 then 39 else 59)) (lv' := [(0, .ref 37), (1, .int v1)]) (st' := []) (lay' := LY88) (h' := h) 4 rfl ?_
      refine pc_ite e (fun e => ?_) (fun e => ?_)
      · refine seg_Bg (pc' := 48) (lv' := [(0, .ref 37), (1, .int v1)]) (st' := [.int v1, .int (h 37 14), .ref 44]) (lay' := LY88) (h' := h) 5 rfl ?_
        refine gp_Bg (pc' := 49) (lv' := [(0, .ref 37), (1, .int v1)]) (st' := []) (lay' := LY88) (x := hset h 44 (Int32.toNatClampNeg (h 37 14)) v1) (g := ibB (h 37 14) 512) rfl e fun h3 e => ?_
        refine seg_Bg (pc' := 56) (lv' := [(0, .ref 37), (1, .int v1)]) (st' := [.int ((h3 37 14) + (1 : Int32)), .ref 37]) (lay' := LY88) (h' := h3) 5 rfl ?_
        refine put_Bg (pc' := 59) (lv' := [(0, .ref 37), (1, .int v1)]) (st' := []) (lay' := LY88) (x := hset h3 37 14 ((h3 37 14) + (1 : Int32))) rfl e fun h4 e => ?_
        refine seg_Bg (pc' := 13) (lv' := [(0, .ref 37), (1, .int (v1 + 1))]) (st' := []) (lay' := LY88) (h' := h4) 2 rfl ?_
        exact hH (v1 + 1, h4) (Option.some.inj e).symm
      · refine seg_Bg (pc' := 13) (lv' := [(0, .ref 37), (1, .int (v1 + 1))]) (st' := []) (lay' := LY88) (h' := h) 2 rfl ?_
        exact hH (v1 + 1, h) (Option.some.inj e).symm
    · refine seg_Bg (pc' := 13) (lv' := [(0, .ref 37), (1, .int (v1 + 1))]) (st' := []) (lay' := LY88) (h' := h) 2 rfl ?_
      exact hH (v1 + 1, h) (Option.some.inj e).symm
theorem BJm_layPlaces_L13 (L : Nat) (xs : Nat → Int32) (R : List Value × Lay × Hp) (C : (Hp) → Prop) (hE : ∀ t : Hp, C t → Bg L xs 187 65 [(0, .ref 37)] [] LY88 t R) (n : Nat) (s : Int32 × Hp) (o : (Hp)) (e : loopN n (fun s => Jm_layPlaces_L13 s.1 s.2) s = some o) (hC : C o) : Bg L xs 187 13 [(0, .ref 37), (1, .int s.1)] [] LY88 s.2 R := by
  refine loop_B (fun s => Jm_layPlaces_L13 s.1 s.2) (fun s : Int32 × Hp => Bg L xs 187 13 [(0, .ref 37), (1, .int s.1)] [] LY88 s.2 R) C (fun s o e => ?_) n s o e hC
  intro hK
  refine BJm_layPlaces_L13_s L xs R s.1 s.2 o (fun s q => by subst q; exact hK) (fun t q => by subst q; exact hE t hK) e
set_option maxRecDepth 100000 in
theorem BJm_layPlaces (L : Nat) (xs : Nat → Int32) (h : Hp) (o : Hp) (e : Jm_layPlaces h = some o) : Bg L xs 187 0 [(0, .ref 37)] [] LY88 h ([], LY88, o) := by
  obtain ⟨R, hR⟩ : ∃ R : List Value × Lay × Hp, R = ([], LY88, o) := ⟨_, rfl⟩
  rw [← hR]
  refine seg_Bg (pc' := 1) (lv' := [(0, .ref 37)]) (st' := [.ref 37]) (lay' := LY88) (h' := h) 1 rfl ?_
  refine call_Bg (a := 184) (la := [(0, .ref 37)]) (np := 4) (lv' := [(0, .ref 37)]) (rest := []) (res := fun r => ([], LY88, r)) rfl e (fun r e => BJm_layTraits L xs h r e) (fun c1 e => ?_)
  show Bg L xs 187 4 [(0, .ref 37)] [] LY88 c1 R
  refine seg_Bg (pc' := (if (c1 37 14) = 0 then 11 else 65)) (lv' := [(0, .ref 37)]) (st' := []) (lay' := LY88) (h' := c1) 3 rfl ?_
  refine pc_ite e (fun e => ?_) (fun e => ?_)
  · refine seg_Bg (pc' := 13) (lv' := [(0, .ref 37), (1, .int 0)]) (st' := []) (lay' := LY88) (h' := c1) 2 rfl ?_
    obtain ⟨t5o, et5o, e⟩ := bd_s e
    refine BJm_layPlaces_L13 L xs R (fun (t5 : Hp) => (some t5) = some o) (fun t5 e => ?_) 1000000 (0, c1) _ et5o e
    rw [hR, ← Option.some.inj e]; exact ret_Bg rfl
  · rw [hR, ← Option.some.inj e]; exact ret_Bg rfl

set_option maxRecDepth 100000 in
theorem BJm_placeOf_L8_s (L : Nat) (xs : Nat → Int32) (v1 : Int32) (h : Hp) (R : List Value × Lay × Hp) (v2 v3 : Int32) (o : ((Int32 × Int32) ⊕ (Int32 × Int32))) (hH : ∀ s : Int32 × Int32, o = .inl s → Bg L xs 188 8 [(0, .ref 37), (1, .int v1), (2, .int s.1), (3, .int s.2)] [] LY88 h R) (hE : ∀ t : Int32 × Int32, o = .inr t → Bg L xs 188 38 [(0, .ref 37), (1, .int v1), (2, .int t.1), (3, .int t.2)] [] LY88 h R) (e : Jm_placeOf_L8 v1 h v2 v3 = some o) : Bg L xs 188 8 [(0, .ref 37), (1, .int v1), (2, .int v2), (3, .int v3)] [] LY88 h R := by
  refine seg_Bg (pc' := (if v3 < (h 37 14) then 16 else 38)) (lv' := [(0, .ref 37), (1, .int v1), (2, .int v2), (3, .int v3)]) (st' := []) (lay' := LY88) (h' := h) 4 rfl ?_
  refine pc_ite e (fun e => ?_) (fun e => ?_)
  · refine seg_Bg (pc' := 21) (lv' := [(0, .ref 37), (1, .int v1), (2, .int v2), (3, .int v3)]) (st' := [.int v3, .ref 44]) (lay' := LY88) (h' := h) 3 rfl ?_
    refine gd_Bg (pc' := 22) (lv' := [(0, .ref 37), (1, .int v1), (2, .int v2), (3, .int v3)]) (st' := [.int (h 44 (Int32.toNatClampNeg v3))]) (lay' := LY88) (h' := h) (g := ibB v3 512) rfl e fun e => ?_
    refine seg_Bg (pc' := (if (h 44 (Int32.toNatClampNeg v3)) = v1 then 26 else 30)) (lv' := [(0, .ref 37), (1, .int v1), (2, .int v2), (3, .int v3)]) (st' := []) (lay' := LY88) (h' := h) 2 rfl ?_
    refine pc_ite e (fun e => ?_) (fun e => ?_)
    · refine seg_Bg (pc' := 8) (lv' := [(0, .ref 37), (1, .int v1), (2, .int v3), (3, .int (v3 + 1))]) (st' := []) (lay' := LY88) (h' := h) 5 rfl ?_
      exact hH (v3, v3 + 1) (Option.some.inj e).symm
    · refine seg_Bg (pc' := 8) (lv' := [(0, .ref 37), (1, .int v1), (2, .int v2), (3, .int (v3 + 1))]) (st' := []) (lay' := LY88) (h' := h) 4 rfl ?_
      exact hH (v2, v3 + 1) (Option.some.inj e).symm
  · exact hE (v2, v3) (Option.some.inj e).symm
theorem BJm_placeOf_L8 (L : Nat) (xs : Nat → Int32) (v1 : Int32) (h : Hp) (R : List Value × Lay × Hp) (C : (Int32 × Int32) → Prop) (hE : ∀ t : Int32 × Int32, C t → Bg L xs 188 38 [(0, .ref 37), (1, .int v1), (2, .int t.1), (3, .int t.2)] [] LY88 h R) (n : Nat) (s : Int32 × Int32) (o : (Int32 × Int32)) (e : loopN n (fun s => Jm_placeOf_L8 v1 h s.1 s.2) s = some o) (hC : C o) : Bg L xs 188 8 [(0, .ref 37), (1, .int v1), (2, .int s.1), (3, .int s.2)] [] LY88 h R := by
  refine loop_B (fun s => Jm_placeOf_L8 v1 h s.1 s.2) (fun s : Int32 × Int32 => Bg L xs 188 8 [(0, .ref 37), (1, .int v1), (2, .int s.1), (3, .int s.2)] [] LY88 h R) C (fun s o e => ?_) n s o e hC
  intro hK
  refine BJm_placeOf_L8_s L xs v1 h R s.1 s.2 o (fun s q => by subst q; exact hK) (fun t q => by subst q; exact hE t hK) e
set_option maxRecDepth 100000 in
theorem BJm_placeOf (L : Nat) (xs : Nat → Int32) (v1 : Int32) (h : Hp) (o : Int32 × Hp) (e : Jm_placeOf v1 h = some o) : Bg L xs 188 0 [(0, .ref 37), (1, .int v1)] [] LY88 h ([.int o.1], LY88, o.2) := by
  obtain ⟨R, hR⟩ : ∃ R : List Value × Lay × Hp, R = ([.int o.1], LY88, o.2) := ⟨_, rfl⟩
  rw [← hR]
  refine seg_Bg (pc' := 1) (lv' := [(0, .ref 37), (1, .int v1)]) (st' := [.ref 37]) (lay' := LY88) (h' := h) 1 rfl ?_
  refine call_Bg (a := 187) (la := [(0, .ref 37)]) (np := 4) (lv' := [(0, .ref 37), (1, .int v1)]) (rest := []) (res := fun r => ([], LY88, r)) rfl e (fun r e => BJm_layPlaces L xs h r e) (fun c1 e => ?_)
  show Bg L xs 188 4 [(0, .ref 37), (1, .int v1)] [] LY88 c1 R
  refine seg_Bg (pc' := 8) (lv' := [(0, .ref 37), (1, .int v1), (2, .int (-1)), (3, .int 0)]) (st' := []) (lay' := LY88) (h' := c1) 4 rfl ?_
  obtain ⟨t2o, et2o, e⟩ := bd_s e
  refine BJm_placeOf_L8 L xs v1 c1 R (fun (t2 : Int32 × Int32) => (some (t2.1, c1)) = some o) (fun t2 e => ?_) 1000000 ((-1), 0) _ et2o e
  refine seg_Bg (pc' := 39) (lv' := [(0, .ref 37), (1, .int v1), (2, .int t2.1), (3, .int t2.2)]) (st' := [.int t2.1]) (lay' := LY88) (h' := c1) 1 rfl ?_
  rw [hR, ← Option.some.inj e]; exact ret_Bg rfl

set_option maxRecDepth 100000 in
theorem BJm_closeLevel_L14_s (L : Nat) (xs : Nat → Int32) (v1 : Int32) (R : List Value × Lay × Hp) (v2 v3 : Int32) (h : Hp) (o : ((Int32 × Int32 × Hp) ⊕ (Int32 × Int32 × Hp))) (hH : ∀ s : Int32 × Int32 × Hp, o = .inl s → Bg L xs 204 14 [(0, .ref 37), (1, .int v1), (2, .int s.1), (3, .int s.2.1)] [] LY88 s.2.2 R) (hE : ∀ t : Int32 × Int32 × Hp, o = .inr t → Bg L xs 204 50 [(0, .ref 37), (1, .int v1), (2, .int t.1), (3, .int t.2.1)] [] LY88 t.2.2 R) (e : Jm_closeLevel_L14 v1 v2 v3 h = some o) : Bg L xs 204 14 [(0, .ref 37), (1, .int v1), (2, .int v2), (3, .int v3)] [] LY88 h R := by
  refine seg_Bg (pc' := (if v3 < 256 then 21 else 50)) (lv' := [(0, .ref 37), (1, .int v1), (2, .int v2), (3, .int v3)]) (st' := []) (lay' := LY88) (h' := h) 3 rfl ?_
  refine pc_ite e (fun e => ?_) (fun e => ?_)
  · refine seg_Bg (pc' := 26) (lv' := [(0, .ref 37), (1, .int v1), (2, .int v2), (3, .int v3)]) (st' := [.int v3, .ref 46]) (lay' := LY88) (h' := h) 3 rfl ?_
    refine gd_Bg (pc' := 27) (lv' := [(0, .ref 37), (1, .int v1), (2, .int v2), (3, .int v3)]) (st' := [.int (h 46 (Int32.toNatClampNeg v3))]) (lay' := LY88) (h' := h) (g := ibB v3 256) rfl e fun e => ?_
    refine seg_Bg (pc' := (if (h 46 (Int32.toNatClampNeg v3)) = (h 37 24) then 34 else 44)) (lv' := [(0, .ref 37), (1, .int v1), (2, .int v2), (3, .int v3)]) (st' := []) (lay' := LY88) (h' := h) 3 rfl ?_
    refine pc_ite e (fun e => ?_) (fun e => ?_)
    · refine seg_Bg (pc' := 40) (lv' := [(0, .ref 37), (1, .int v1), (2, .int v2), (3, .int v3)]) (st' := [.int v3, .int v2, .ref 50]) (lay' := LY88) (h' := h) 4 rfl ?_
      refine gp_Bg (pc' := 41) (lv' := [(0, .ref 37), (1, .int v1), (2, .int v2), (3, .int v3)]) (st' := []) (lay' := LY88) (x := hset h 50 (Int32.toNatClampNeg v2) v3) (g := ibB v2 256) rfl e fun h2 e => ?_
      refine seg_Bg (pc' := 14) (lv' := [(0, .ref 37), (1, .int v1), (2, .int (v2 + 1)), (3, .int (v3 + 1))]) (st' := []) (lay' := LY88) (h' := h2) 3 rfl ?_
      exact hH (v2 + 1, v3 + 1, h2) (Option.some.inj e).symm
    · refine seg_Bg (pc' := 14) (lv' := [(0, .ref 37), (1, .int v1), (2, .int v2), (3, .int (v3 + 1))]) (st' := []) (lay' := LY88) (h' := h) 2 rfl ?_
      exact hH (v2, v3 + 1, h) (Option.some.inj e).symm
  · exact hE (v2, v3, h) (Option.some.inj e).symm
theorem BJm_closeLevel_L14 (L : Nat) (xs : Nat → Int32) (v1 : Int32) (R : List Value × Lay × Hp) (C : (Int32 × Int32 × Hp) → Prop) (hE : ∀ t : Int32 × Int32 × Hp, C t → Bg L xs 204 50 [(0, .ref 37), (1, .int v1), (2, .int t.1), (3, .int t.2.1)] [] LY88 t.2.2 R) (n : Nat) (s : Int32 × Int32 × Hp) (o : (Int32 × Int32 × Hp)) (e : loopN n (fun s => Jm_closeLevel_L14 v1 s.1 s.2.1 s.2.2) s = some o) (hC : C o) : Bg L xs 204 14 [(0, .ref 37), (1, .int v1), (2, .int s.1), (3, .int s.2.1)] [] LY88 s.2.2 R := by
  refine loop_B (fun s => Jm_closeLevel_L14 v1 s.1 s.2.1 s.2.2) (fun s : Int32 × Int32 × Hp => Bg L xs 204 14 [(0, .ref 37), (1, .int v1), (2, .int s.1), (3, .int s.2.1)] [] LY88 s.2.2 R) C (fun s o e => ?_) n s o e hC
  intro hK
  refine BJm_closeLevel_L14_s L xs v1 R s.1 s.2.1 s.2.2 o (fun s q => by subst q; exact hK) (fun t q => by subst q; exact hE t hK) e
set_option maxRecDepth 100000 in
theorem BJm_closeLevel (L : Nat) (xs : Nat → Int32) (v1 : Int32) (h : Hp) (o : Int32 × Hp) (e : Jm_closeLevel v1 h = some o) : Bg L xs 204 0 [(0, .ref 37), (1, .int v1)] [] LY88 h ([.int o.1], LY88, o.2) := by
  obtain ⟨R, hR⟩ : ∃ R : List Value × Lay × Hp, R = ([.int o.1], LY88, o.2) := ⟨_, rfl⟩
  rw [← hR]
  refine seg_Bg (pc' := 11) (lv' := [(0, .ref 37), (1, .int v1), (2, .int v1)]) (st' := [.int v1, .int (h 37 24), .ref 51]) (lay' := LY88) (h' := h) 7 rfl ?_
  refine gp_Bg (pc' := 12) (lv' := [(0, .ref 37), (1, .int v1), (2, .int v1)]) (st' := []) (lay' := LY88) (x := hset h 51 (Int32.toNatClampNeg (h 37 24)) v1) (g := ibB (h 37 24) 10002) rfl e fun h1 e => ?_
  refine seg_Bg (pc' := 14) (lv' := [(0, .ref 37), (1, .int v1), (2, .int v1), (3, .int 0)]) (st' := []) (lay' := LY88) (h' := h1) 2 rfl ?_
  obtain ⟨t3o, et3o, e⟩ := bd_s e
  refine BJm_closeLevel_L14 L xs v1 R (fun (t3 : Int32 × Int32 × Hp) => (bif ibB ((t3.2.2 37 24) + (1 : Int32)) 10002 then lt (hset t3.2.2 51 (Int32.toNatClampNeg ((t3.2.2 37 24) + (1 : Int32))) t3.1) fun h4 => some (t3.1, h4) else none) = some o) (fun t3 e => ?_) 1000000 (v1, 0, h1) _ et3o e
  refine seg_Bg (pc' := 61) (lv' := [(0, .ref 37), (1, .int v1), (2, .int t3.1), (3, .int t3.2.1)]) (st' := [.int t3.1, .int ((t3.2.2 37 24) + (1 : Int32)), .ref 51]) (lay' := LY88) (h' := t3.2.2) 7 rfl ?_
  refine gp_Bg (pc' := 62) (lv' := [(0, .ref 37), (1, .int v1), (2, .int t3.1), (3, .int t3.2.1)]) (st' := []) (lay' := LY88) (x := hset t3.2.2 51 (Int32.toNatClampNeg ((t3.2.2 37 24) + (1 : Int32))) t3.1) (g := ibB ((t3.2.2 37 24) + (1 : Int32)) 10002) rfl e fun h4 e => ?_
  refine seg_Bg (pc' := 63) (lv' := [(0, .ref 37), (1, .int v1), (2, .int t3.1), (3, .int t3.2.1)]) (st' := [.int t3.1]) (lay' := LY88) (h' := h4) 1 rfl ?_
  rw [hR, ← Option.some.inj e]; exact ret_Bg rfl

set_option maxRecDepth 100000 in
theorem BJm_arity (L : Nat) (xs : Nat → Int32) (v0 : Int32) (lay : Lay) (h : Hp) (o : Int32) (e : Jm_arity v0 = some o) : Bg L xs 173 0 [(0, .int v0)] [] lay h ([.int o], lay, h) := by
  obtain ⟨R, hR⟩ : ∃ R : List Value × Lay × Hp, R = ([.int o], lay, h) := ⟨_, rfl⟩
  rw [← hR]
  refine seg_Bg (pc' := 1) (lv' := [(0, .int v0)]) (st' := [.int v0]) (lay' := lay) (h' := h) 1 rfl ?_
  refine call_Bg (a := 172) (la := [(0, .int v0)]) (np := 4) (lv' := [(0, .int v0)]) (rest := []) (res := fun r => ([.int r], lay, h)) rfl e (fun r e => BJm_hangs L xs v0 lay h r e) (fun c1 e => ?_)
  show Bg L xs 173 4 [(0, .int v0)] [.int c1] lay h R
  refine seg_Bg (pc' := 7) (lv' := [(0, .int v0), (1, .int c1)]) (st' := [.int 2, .int c1]) (lay' := lay) (h' := h) 3 rfl ?_
  refine call_Bg (a := 167) (la := [(0, .int c1), (1, .int 2)]) (np := 10) (lv' := [(0, .int v0), (1, .int c1)]) (rest := []) (res := fun r => ([.int r], lay, h)) rfl e (fun r e => BJm_has L xs c1 2 lay h r e) (fun c2 e => ?_)
  show Bg L xs 173 10 [(0, .int v0), (1, .int c1)] [.int c2] lay h R
  refine seg_Bg (pc' := (if c2 = 0 then 17 else 13)) (lv' := [(0, .int v0), (1, .int c1)]) (st' := []) (lay' := lay) (h' := h) 1 rfl ?_
  refine pc_ite e (fun e => ?_) (fun e => ?_)
  · refine seg_Bg (pc' := 19) (lv' := [(0, .int v0), (1, .int c1)]) (st' := [.int 1, .int c1]) (lay' := lay) (h' := h) 2 rfl ?_
    refine call_Bg (a := 167) (la := [(0, .int c1), (1, .int 1)]) (np := 22) (lv' := [(0, .int v0), (1, .int c1)]) (rest := []) (res := fun r => ([.int r], lay, h)) rfl e (fun r e => BJm_has L xs c1 1 lay h r e) (fun c3 e => ?_)
    show Bg L xs 173 22 [(0, .int v0), (1, .int c1)] [.int c3] lay h R
    refine seg_Bg (pc' := (if c3 = 0 then 29 else 25)) (lv' := [(0, .int v0), (1, .int c1)]) (st' := []) (lay' := lay) (h' := h) 1 rfl ?_
    refine pc_ite e (fun e => ?_) (fun e => ?_)
    · refine seg_Bg (pc' := 31) (lv' := [(0, .int v0), (1, .int c1)]) (st' := [.int 0, .int c1]) (lay' := lay) (h' := h) 2 rfl ?_
      refine call_Bg (a := 167) (la := [(0, .int c1), (1, .int 0)]) (np := 34) (lv' := [(0, .int v0), (1, .int c1)]) (rest := []) (res := fun r => ([.int r], lay, h)) rfl e (fun r e => BJm_has L xs c1 0 lay h r e) (fun c4 e => ?_)
      show Bg L xs 173 34 [(0, .int v0), (1, .int c1)] [.int c4] lay h R
      refine seg_Bg (pc' := (if c4 = 0 then 41 else 37)) (lv' := [(0, .int v0), (1, .int c1)]) (st' := []) (lay' := lay) (h' := h) 1 rfl ?_
      refine pc_ite e (fun e => ?_) (fun e => ?_)
      · refine seg_Bg (pc' := 42) (lv' := [(0, .int v0), (1, .int c1)]) (st' := [.int 0]) (lay' := lay) (h' := h) 1 rfl ?_
        rw [hR, ← Option.some.inj e]; exact ret_Bg rfl
      · refine seg_Bg (pc' := 42) (lv' := [(0, .int v0), (1, .int c1)]) (st' := [.int 1]) (lay' := lay) (h' := h) 2 rfl ?_
        rw [hR, ← Option.some.inj e]; exact ret_Bg rfl
    · refine seg_Bg (pc' := 42) (lv' := [(0, .int v0), (1, .int c1)]) (st' := [.int 2]) (lay' := lay) (h' := h) 2 rfl ?_
      rw [hR, ← Option.some.inj e]; exact ret_Bg rfl
  · refine seg_Bg (pc' := 42) (lv' := [(0, .int v0), (1, .int c1)]) (st' := [.int 3]) (lay' := lay) (h' := h) 2 rfl ?_
    rw [hR, ← Option.some.inj e]; exact ret_Bg rfl

set_option maxRecDepth 100000 in
theorem BJm_offer_J97 (L : Nat) (xs : Nat → Int32) (v1 v2 v3 v4 v5 s1 s2 s3 : Int32) (h : Hp) (o : (Hp)) (e : Jm_offer_J97 v1 v2 v3 v4 v5 s1 s2 s3 h = some o) (R : List Value × Lay × Hp) (hR : R = ([], LY88, o)) : Bg L xs 199 97 [(0, .ref 37), (1, .int v1), (2, .int v2), (3, .int v3), (4, .int v4), (5, .int v5)] [.int s3, .int s2, .int s1, .ref 49] LY88 h R := by
  refine seg_Bg (pc' := (if v5 < 0 then 103 else 107)) (lv' := [(0, .ref 37), (1, .int v1), (2, .int v2), (3, .int v3), (4, .int v4), (5, .int v5)]) (st' := [.int (s2 + s3), .int s1, .ref 49]) (lay' := LY88) (h' := h) 3 rfl ?_
  refine pc_ite e (fun e => ?_) (fun e => ?_)
  · refine seg_Bg (pc' := 115) (lv' := [(0, .ref 37), (1, .int v1), (2, .int v2), (3, .int v3), (4, .int v4), (5, .int v5)]) (st' := [.int ((s2 + s3) + (0 : Int32)), .int s1, .ref 49]) (lay' := LY88) (h' := h) 3 rfl ?_
    refine gp_Bg (pc' := 116) (lv' := [(0, .ref 37), (1, .int v1), (2, .int v2), (3, .int v3), (4, .int v4), (5, .int v5)]) (st' := []) (lay' := LY88) (x := hset h 49 (Int32.toNatClampNeg s1) ((s2 + s3) + (0 : Int32))) (g := ibB s1 256) rfl e fun h6 e => ?_
    rw [hR, ← Option.some.inj e]; exact ret_Bg rfl
  · refine seg_Bg (pc' := 113) (lv' := [(0, .ref 37), (1, .int v1), (2, .int v2), (3, .int v3), (4, .int v4), (5, .int v5)]) (st' := [.int v5, .ref 49, .int (s2 + s3), .int s1, .ref 49]) (lay' := LY88) (h' := h) 3 rfl ?_
    refine gd_Bg (pc' := 114) (lv' := [(0, .ref 37), (1, .int v1), (2, .int v2), (3, .int v3), (4, .int v4), (5, .int v5)]) (st' := [.int (h 49 (Int32.toNatClampNeg v5)), .int (s2 + s3), .int s1, .ref 49]) (lay' := LY88) (h' := h) (g := ibB v5 256) rfl e fun e => ?_
    refine seg_Bg (pc' := 115) (lv' := [(0, .ref 37), (1, .int v1), (2, .int v2), (3, .int v3), (4, .int v4), (5, .int v5)]) (st' := [.int ((s2 + s3) + (h 49 (Int32.toNatClampNeg v5))), .int s1, .ref 49]) (lay' := LY88) (h' := h) 1 rfl ?_
    refine gp_Bg (pc' := 116) (lv' := [(0, .ref 37), (1, .int v1), (2, .int v2), (3, .int v3), (4, .int v4), (5, .int v5)]) (st' := []) (lay' := LY88) (x := hset h 49 (Int32.toNatClampNeg s1) ((s2 + s3) + (h 49 (Int32.toNatClampNeg v5)))) (g := ibB s1 256) rfl e fun h7 e => ?_
    rw [hR, ← Option.some.inj e]; exact ret_Bg rfl
set_option maxRecDepth 100000 in
theorem BJm_offer_J80 (L : Nat) (xs : Nat → Int32) (v1 v2 v3 v4 v5 s1 s2 s3 : Int32) (h : Hp) (o : (Hp)) (e : Jm_offer_J80 v1 v2 v3 v4 v5 s1 s2 s3 h = some o) (R : List Value × Lay × Hp) (hR : R = ([], LY88, o)) : Bg L xs 199 80 [(0, .ref 37), (1, .int v1), (2, .int v2), (3, .int v3), (4, .int v4), (5, .int v5)] [.int s3, .int s2, .int s1, .ref 49] LY88 h R := by
  refine seg_Bg (pc' := (if v4 < 0 then 86 else 90)) (lv' := [(0, .ref 37), (1, .int v1), (2, .int v2), (3, .int v3), (4, .int v4), (5, .int v5)]) (st' := [.int (s2 + s3), .int s1, .ref 49]) (lay' := LY88) (h' := h) 3 rfl ?_
  refine pc_ite e (fun e => ?_) (fun e => ?_)
  · refine seg_Bg (pc' := 97) (lv' := [(0, .ref 37), (1, .int v1), (2, .int v2), (3, .int v3), (4, .int v4), (5, .int v5)]) (st' := [.int 0, .int (s2 + s3), .int s1, .ref 49]) (lay' := LY88) (h' := h) 2 rfl ?_
    exact BJm_offer_J97 L xs v1 v2 v3 v4 v5 s1 (s2 + s3) 0 h o e R hR
  · refine seg_Bg (pc' := 96) (lv' := [(0, .ref 37), (1, .int v1), (2, .int v2), (3, .int v3), (4, .int v4), (5, .int v5)]) (st' := [.int v4, .ref 49, .int (s2 + s3), .int s1, .ref 49]) (lay' := LY88) (h' := h) 3 rfl ?_
    refine gd_Bg (pc' := 97) (lv' := [(0, .ref 37), (1, .int v1), (2, .int v2), (3, .int v3), (4, .int v4), (5, .int v5)]) (st' := [.int (h 49 (Int32.toNatClampNeg v4)), .int (s2 + s3), .int s1, .ref 49]) (lay' := LY88) (h' := h) (g := ibB v4 256) rfl e fun e => ?_
    refine seg_Bg (pc' := (if v5 < 0 then 103 else 107)) (lv' := [(0, .ref 37), (1, .int v1), (2, .int v2), (3, .int v3), (4, .int v4), (5, .int v5)]) (st' := [.int ((s2 + s3) + (h 49 (Int32.toNatClampNeg v4))), .int s1, .ref 49]) (lay' := LY88) (h' := h) 3 rfl ?_
    refine pc_ite e (fun e => ?_) (fun e => ?_)
    · refine seg_Bg (pc' := 115) (lv' := [(0, .ref 37), (1, .int v1), (2, .int v2), (3, .int v3), (4, .int v4), (5, .int v5)]) (st' := [.int (((s2 + s3) + (h 49 (Int32.toNatClampNeg v4))) + (0 : Int32)), .int s1, .ref 49]) (lay' := LY88) (h' := h) 3 rfl ?_
      refine gp_Bg (pc' := 116) (lv' := [(0, .ref 37), (1, .int v1), (2, .int v2), (3, .int v3), (4, .int v4), (5, .int v5)]) (st' := []) (lay' := LY88) (x := hset h 49 (Int32.toNatClampNeg s1) (((s2 + s3) + (h 49 (Int32.toNatClampNeg v4))) + (0 : Int32))) (g := ibB s1 256) rfl e fun h8 e => ?_
      rw [hR, ← Option.some.inj e]; exact ret_Bg rfl
    · refine seg_Bg (pc' := 113) (lv' := [(0, .ref 37), (1, .int v1), (2, .int v2), (3, .int v3), (4, .int v4), (5, .int v5)]) (st' := [.int v5, .ref 49, .int ((s2 + s3) + (h 49 (Int32.toNatClampNeg v4))), .int s1, .ref 49]) (lay' := LY88) (h' := h) 3 rfl ?_
      refine gd_Bg (pc' := 114) (lv' := [(0, .ref 37), (1, .int v1), (2, .int v2), (3, .int v3), (4, .int v4), (5, .int v5)]) (st' := [.int (h 49 (Int32.toNatClampNeg v5)), .int ((s2 + s3) + (h 49 (Int32.toNatClampNeg v4))), .int s1, .ref 49]) (lay' := LY88) (h' := h) (g := ibB v5 256) rfl e fun e => ?_
      refine seg_Bg (pc' := 115) (lv' := [(0, .ref 37), (1, .int v1), (2, .int v2), (3, .int v3), (4, .int v4), (5, .int v5)]) (st' := [.int (((s2 + s3) + (h 49 (Int32.toNatClampNeg v4))) + (h 49 (Int32.toNatClampNeg v5))), .int s1, .ref 49]) (lay' := LY88) (h' := h) 1 rfl ?_
      refine gp_Bg (pc' := 116) (lv' := [(0, .ref 37), (1, .int v1), (2, .int v2), (3, .int v3), (4, .int v4), (5, .int v5)]) (st' := []) (lay' := LY88) (x := hset h 49 (Int32.toNatClampNeg s1) (((s2 + s3) + (h 49 (Int32.toNatClampNeg v4))) + (h 49 (Int32.toNatClampNeg v5)))) (g := ibB s1 256) rfl e fun h9 e => ?_
      rw [hR, ← Option.some.inj e]; exact ret_Bg rfl
set_option maxRecDepth 100000 in
theorem BJm_offer (L : Nat) (xs : Nat → Int32) (v1 : Int32) (v2 : Int32) (v3 : Int32) (v4 : Int32) (v5 : Int32) (h : Hp) (o : Hp) (e : Jm_offer v1 v2 v3 v4 v5 h = some o) : Bg L xs 199 0 [(0, .ref 37), (1, .int v1), (2, .int v2), (3, .int v3), (4, .int v4), (5, .int v5)] [] LY88 h ([], LY88, o) := by
  obtain ⟨R, hR⟩ : ∃ R : List Value × Lay × Hp, R = ([], LY88, o) := ⟨_, rfl⟩
  rw [← hR]
  refine seg_Bg (pc' := 5) (lv' := [(0, .ref 37), (1, .int v1), (2, .int v2), (3, .int v3), (4, .int v4), (5, .int v5)]) (st' := [.int v1, .ref 46]) (lay' := LY88) (h' := h) 3 rfl ?_
  refine gd_Bg (pc' := 6) (lv' := [(0, .ref 37), (1, .int v1), (2, .int v2), (3, .int v3), (4, .int v4), (5, .int v5)]) (st' := [.int (h 46 (Int32.toNatClampNeg v1))]) (lay' := LY88) (h' := h) (g := ibB v1 256) rfl e fun e => ?_
  refine seg_Bg (pc' := (if (h 46 (Int32.toNatClampNeg v1)) < 0 then 10 else 9)) (lv' := [(0, .ref 37), (1, .int v1), (2, .int v2), (3, .int v3), (4, .int v4), (5, .int v5)]) (st' := []) (lay' := LY88) (h' := h) 1 rfl ?_
  refine pc_ite e (fun e => ?_) (fun e => ?_)
  · refine seg_Bg (pc' := 19) (lv' := [(0, .ref 37), (1, .int v1), (2, .int v2), (3, .int v3), (4, .int v4), (5, .int v5)]) (st' := [.int (h 37 24), .int v1, .ref 46]) (lay' := LY88) (h' := h) 5 rfl ?_
    refine gp_Bg (pc' := 20) (lv' := [(0, .ref 37), (1, .int v1), (2, .int v2), (3, .int v3), (4, .int v4), (5, .int v5)]) (st' := []) (lay' := LY88) (x := hset h 46 (Int32.toNatClampNeg v1) (h 37 24)) (g := ibB v1 256) rfl e fun h1 e => ?_
    refine seg_Bg (pc' := 26) (lv' := [(0, .ref 37), (1, .int v1), (2, .int v2), (3, .int v3), (4, .int v4), (5, .int v5)]) (st' := [.int v2, .int v1, .ref 47]) (lay' := LY88) (h' := h1) 4 rfl ?_
    refine gp_Bg (pc' := 27) (lv' := [(0, .ref 37), (1, .int v1), (2, .int v2), (3, .int v3), (4, .int v4), (5, .int v5)]) (st' := []) (lay' := LY88) (x := hset h1 47 (Int32.toNatClampNeg v1) v2) (g := ibB v1 256) rfl e fun h2 e => ?_
    refine seg_Bg (pc' := 35) (lv' := [(0, .ref 37), (1, .int v1), (2, .int v2), (3, .int v3), (4, .int v4), (5, .int v5)]) (st' := [.int v3, .int ((3 : Int32) * v1), .ref 48]) (lay' := LY88) (h' := h2) 6 rfl ?_
    refine gp_Bg (pc' := 36) (lv' := [(0, .ref 37), (1, .int v1), (2, .int v2), (3, .int v3), (4, .int v4), (5, .int v5)]) (st' := []) (lay' := LY88) (x := hset h2 48 (Int32.toNatClampNeg ((3 : Int32) * v1)) v3) (g := ibB ((3 : Int32) * v1) 768) rfl e fun h3 e => ?_
    refine seg_Bg (pc' := 47) (lv' := [(0, .ref 37), (1, .int v1), (2, .int v2), (3, .int v3), (4, .int v4), (5, .int v5)]) (st' := [.int v4, .int (((3 : Int32) * v1) + (1 : Int32)), .ref 48]) (lay' := LY88) (h' := h3) 8 rfl ?_
    refine gp_Bg (pc' := 48) (lv' := [(0, .ref 37), (1, .int v1), (2, .int v2), (3, .int v3), (4, .int v4), (5, .int v5)]) (st' := []) (lay' := LY88) (x := hset h3 48 (Int32.toNatClampNeg (((3 : Int32) * v1) + (1 : Int32))) v4) (g := ibB (((3 : Int32) * v1) + (1 : Int32)) 768) rfl e fun h4 e => ?_
    refine seg_Bg (pc' := 59) (lv' := [(0, .ref 37), (1, .int v1), (2, .int v2), (3, .int v3), (4, .int v4), (5, .int v5)]) (st' := [.int v5, .int (((3 : Int32) * v1) + (2 : Int32)), .ref 48]) (lay' := LY88) (h' := h4) 8 rfl ?_
    refine gp_Bg (pc' := 60) (lv' := [(0, .ref 37), (1, .int v1), (2, .int v2), (3, .int v3), (4, .int v4), (5, .int v5)]) (st' := []) (lay' := LY88) (x := hset h4 48 (Int32.toNatClampNeg (((3 : Int32) * v1) + (2 : Int32))) v5) (g := ibB (((3 : Int32) * v1) + (2 : Int32)) 768) rfl e fun h5 e => ?_
    refine seg_Bg (pc' := (if v3 < 0 then 70 else 74)) (lv' := [(0, .ref 37), (1, .int v1), (2, .int v2), (3, .int v3), (4, .int v4), (5, .int v5)]) (st' := [.int 1, .int v1, .ref 49]) (lay' := LY88) (h' := h5) 6 rfl ?_
    refine pc_ite e (fun e => ?_) (fun e => ?_)
    · refine seg_Bg (pc' := 80) (lv' := [(0, .ref 37), (1, .int v1), (2, .int v2), (3, .int v3), (4, .int v4), (5, .int v5)]) (st' := [.int 0, .int 1, .int v1, .ref 49]) (lay' := LY88) (h' := h5) 2 rfl ?_
      exact BJm_offer_J80 L xs v1 v2 v3 v4 v5 v1 1 0 h5 o e R hR
    · refine seg_Bg (pc' := 79) (lv' := [(0, .ref 37), (1, .int v1), (2, .int v2), (3, .int v3), (4, .int v4), (5, .int v5)]) (st' := [.int v3, .ref 49, .int 1, .int v1, .ref 49]) (lay' := LY88) (h' := h5) 3 rfl ?_
      refine gd_Bg (pc' := 80) (lv' := [(0, .ref 37), (1, .int v1), (2, .int v2), (3, .int v3), (4, .int v4), (5, .int v5)]) (st' := [.int (h5 49 (Int32.toNatClampNeg v3)), .int 1, .int v1, .ref 49]) (lay' := LY88) (h' := h5) (g := ibB v3 256) rfl e fun e => ?_
      refine seg_Bg (pc' := (if v4 < 0 then 86 else 90)) (lv' := [(0, .ref 37), (1, .int v1), (2, .int v2), (3, .int v3), (4, .int v4), (5, .int v5)]) (st' := [.int ((1 : Int32) + (h5 49 (Int32.toNatClampNeg v3))), .int v1, .ref 49]) (lay' := LY88) (h' := h5) 3 rfl ?_
      refine pc_ite e (fun e => ?_) (fun e => ?_)
      · refine seg_Bg (pc' := 97) (lv' := [(0, .ref 37), (1, .int v1), (2, .int v2), (3, .int v3), (4, .int v4), (5, .int v5)]) (st' := [.int 0, .int ((1 : Int32) + (h5 49 (Int32.toNatClampNeg v3))), .int v1, .ref 49]) (lay' := LY88) (h' := h5) 2 rfl ?_
        exact BJm_offer_J97 L xs v1 v2 v3 v4 v5 v1 ((1 : Int32) + (h5 49 (Int32.toNatClampNeg v3))) 0 h5 o e R hR
      · refine seg_Bg (pc' := 96) (lv' := [(0, .ref 37), (1, .int v1), (2, .int v2), (3, .int v3), (4, .int v4), (5, .int v5)]) (st' := [.int v4, .ref 49, .int ((1 : Int32) + (h5 49 (Int32.toNatClampNeg v3))), .int v1, .ref 49]) (lay' := LY88) (h' := h5) 3 rfl ?_
        refine gd_Bg (pc' := 97) (lv' := [(0, .ref 37), (1, .int v1), (2, .int v2), (3, .int v3), (4, .int v4), (5, .int v5)]) (st' := [.int (h5 49 (Int32.toNatClampNeg v4)), .int ((1 : Int32) + (h5 49 (Int32.toNatClampNeg v3))), .int v1, .ref 49]) (lay' := LY88) (h' := h5) (g := ibB v4 256) rfl e fun e => ?_
        refine seg_Bg (pc' := (if v5 < 0 then 103 else 107)) (lv' := [(0, .ref 37), (1, .int v1), (2, .int v2), (3, .int v3), (4, .int v4), (5, .int v5)]) (st' := [.int (((1 : Int32) + (h5 49 (Int32.toNatClampNeg v3))) + (h5 49 (Int32.toNatClampNeg v4))), .int v1, .ref 49]) (lay' := LY88) (h' := h5) 3 rfl ?_
        refine pc_ite e (fun e => ?_) (fun e => ?_)
        · refine seg_Bg (pc' := 115) (lv' := [(0, .ref 37), (1, .int v1), (2, .int v2), (3, .int v3), (4, .int v4), (5, .int v5)]) (st' := [.int ((((1 : Int32) + (h5 49 (Int32.toNatClampNeg v3))) + (h5 49 (Int32.toNatClampNeg v4))) + (0 : Int32)), .int v1, .ref 49]) (lay' := LY88) (h' := h5) 3 rfl ?_
          refine gp_Bg (pc' := 116) (lv' := [(0, .ref 37), (1, .int v1), (2, .int v2), (3, .int v3), (4, .int v4), (5, .int v5)]) (st' := []) (lay' := LY88) (x := hset h5 49 (Int32.toNatClampNeg v1) ((((1 : Int32) + (h5 49 (Int32.toNatClampNeg v3))) + (h5 49 (Int32.toNatClampNeg v4))) + (0 : Int32))) (g := ibB v1 256) rfl e fun h10 e => ?_
          rw [hR, ← Option.some.inj e]; exact ret_Bg rfl
        · refine seg_Bg (pc' := 113) (lv' := [(0, .ref 37), (1, .int v1), (2, .int v2), (3, .int v3), (4, .int v4), (5, .int v5)]) (st' := [.int v5, .ref 49, .int (((1 : Int32) + (h5 49 (Int32.toNatClampNeg v3))) + (h5 49 (Int32.toNatClampNeg v4))), .int v1, .ref 49]) (lay' := LY88) (h' := h5) 3 rfl ?_
          refine gd_Bg (pc' := 114) (lv' := [(0, .ref 37), (1, .int v1), (2, .int v2), (3, .int v3), (4, .int v4), (5, .int v5)]) (st' := [.int (h5 49 (Int32.toNatClampNeg v5)), .int (((1 : Int32) + (h5 49 (Int32.toNatClampNeg v3))) + (h5 49 (Int32.toNatClampNeg v4))), .int v1, .ref 49]) (lay' := LY88) (h' := h5) (g := ibB v5 256) rfl e fun e => ?_
          refine seg_Bg (pc' := 115) (lv' := [(0, .ref 37), (1, .int v1), (2, .int v2), (3, .int v3), (4, .int v4), (5, .int v5)]) (st' := [.int ((((1 : Int32) + (h5 49 (Int32.toNatClampNeg v3))) + (h5 49 (Int32.toNatClampNeg v4))) + (h5 49 (Int32.toNatClampNeg v5))), .int v1, .ref 49]) (lay' := LY88) (h' := h5) 1 rfl ?_
          refine gp_Bg (pc' := 116) (lv' := [(0, .ref 37), (1, .int v1), (2, .int v2), (3, .int v3), (4, .int v4), (5, .int v5)]) (st' := []) (lay' := LY88) (x := hset h5 49 (Int32.toNatClampNeg v1) ((((1 : Int32) + (h5 49 (Int32.toNatClampNeg v3))) + (h5 49 (Int32.toNatClampNeg v4))) + (h5 49 (Int32.toNatClampNeg v5)))) (g := ibB v1 256) rfl e fun h11 e => ?_
          rw [hR, ← Option.some.inj e]; exact ret_Bg rfl
  · rw [hR, ← Option.some.inj e]; exact ret_Bg rfl

set_option maxRecDepth 100000 in
theorem BJm_isMade (L : Nat) (xs : Nat → Int32) (v1 : Int32) (h : Hp) (o : Int32) (e : Jm_isMade v1 h = some o) : Bg L xs 200 0 [(0, .ref 37), (1, .int v1)] [] LY88 h ([.int o], LY88, h) := by
  obtain ⟨R, hR⟩ : ∃ R : List Value × Lay × Hp, R = ([.int o], LY88, h) := ⟨_, rfl⟩
  rw [← hR]
  refine seg_Bg (pc' := 5) (lv' := [(0, .ref 37), (1, .int v1)]) (st' := [.int v1, .ref 46]) (lay' := LY88) (h' := h) 3 rfl ?_
  refine gd_Bg (pc' := 6) (lv' := [(0, .ref 37), (1, .int v1)]) (st' := [.int (h 46 (Int32.toNatClampNeg v1))]) (lay' := LY88) (h' := h) (g := ibB v1 256) rfl e fun e => ?_
  refine seg_Bg (pc' := (if (h 46 (Int32.toNatClampNeg v1)) < 0 then 26 else 9)) (lv' := [(0, .ref 37), (1, .int v1)]) (st' := []) (lay' := LY88) (h' := h) 1 rfl ?_
  refine pc_ite e (fun e => ?_) (fun e => ?_)
  · refine seg_Bg (pc' := 27) (lv' := [(0, .ref 37), (1, .int v1)]) (st' := [.int 0]) (lay' := LY88) (h' := h) 1 rfl ?_
    rw [hR, ← Option.some.inj e]; exact ret_Bg rfl
  · refine seg_Bg (pc' := 14) (lv' := [(0, .ref 37), (1, .int v1)]) (st' := [.int v1, .ref 46]) (lay' := LY88) (h' := h) 3 rfl ?_
    refine gd_Bg (pc' := 15) (lv' := [(0, .ref 37), (1, .int v1)]) (st' := [.int (h 46 (Int32.toNatClampNeg v1))]) (lay' := LY88) (h' := h) (g := ibB v1 256) rfl e fun e => ?_
    refine seg_Bg (pc' := (if (h 46 (Int32.toNatClampNeg v1)) < (h 37 24) then 22 else 26)) (lv' := [(0, .ref 37), (1, .int v1)]) (st' := []) (lay' := LY88) (h' := h) 3 rfl ?_
    refine pc_ite e (fun e => ?_) (fun e => ?_)
    · refine seg_Bg (pc' := 27) (lv' := [(0, .ref 37), (1, .int v1)]) (st' := [.int 1]) (lay' := LY88) (h' := h) 2 rfl ?_
      rw [hR, ← Option.some.inj e]; exact ret_Bg rfl
    · refine seg_Bg (pc' := 27) (lv' := [(0, .ref 37), (1, .int v1)]) (st' := [.int 0]) (lay' := LY88) (h' := h) 1 rfl ?_
      rw [hR, ← Option.some.inj e]; exact ret_Bg rfl

set_option maxRecDepth 100000 in
theorem BJm_offerThird_L41_s (L : Nat) (xs : Nat → Int32) (v1 v2 v3 v4 v5 v6 v7 : Int32) (R : List Value × Lay × Hp) (v8 : Int32) (h : Hp) (o : ((Int32 × Hp) ⊕ (Int32 × Hp))) (hH : ∀ s : Int32 × Hp, o = .inl s → Bg L xs 201 41 [(0, .ref 37), (1, .int v1), (2, .int v2), (3, .int v3), (4, .int v4), (5, .int v5), (6, .int v6), (7, .int v7), (8, .int s.1)] [] LY88 s.2 R) (hE : ∀ t : Int32 × Hp, o = .inr t → Bg L xs 201 92 [(0, .ref 37), (1, .int v1), (2, .int v2), (3, .int v3), (4, .int v4), (5, .int v5), (6, .int v6), (7, .int v7), (8, .int t.1)] [] LY88 t.2 R) (e : Jm_offerThird_L41 v1 v2 v3 v4 v5 v6 v7 v8 h = some o) : Bg L xs 201 41 [(0, .ref 37), (1, .int v1), (2, .int v2), (3, .int v3), (4, .int v4), (5, .int v5), (6, .int v6), (7, .int v7), (8, .int v8)] [] LY88 h R := by
  refine seg_Bg (pc' := 51) (lv' := [(0, .ref 37), (1, .int v1), (2, .int v2), (3, .int v3), (4, .int v4), (5, .int v5), (6, .int v6), (7, .int v7), (8, .int v8)]) (st' := [.int (v4 + (1 : Int32)), .ref 51, .int v8]) (lay' := LY88) (h' := h) 6 rfl ?_
  refine gd_Bg (pc' := 52) (lv' := [(0, .ref 37), (1, .int v1), (2, .int v2), (3, .int v3), (4, .int v4), (5, .int v5), (6, .int v6), (7, .int v7), (8, .int v8)]) (st' := [.int (h 51 (Int32.toNatClampNeg (v4 + (1 : Int32)))), .int v8]) (lay' := LY88) (h' := h) (g := ibB (v4 + (1 : Int32)) 10002) rfl e fun e => ?_
  refine seg_Bg (pc' := (if v8 < (h 51 (Int32.toNatClampNeg (v4 + (1 : Int32)))) then 55 else 92)) (lv' := [(0, .ref 37), (1, .int v1), (2, .int v2), (3, .int v3), (4, .int v4), (5, .int v5), (6, .int v6), (7, .int v7), (8, .int v8)]) (st' := []) (lay' := LY88) (h' := h) 1 rfl ?_
  refine pc_ite e (fun e => ?_) (fun e => ?_)
  · refine seg_Bg (pc' := 61) (lv' := [(0, .ref 37), (1, .int v1), (2, .int v2), (3, .int v3), (4, .int v4), (5, .int v5), (6, .int v6), (7, .int v7), (8, .int v8)]) (st' := [.int v8, .ref 50]) (lay' := LY88) (h' := h) 3 rfl ?_
    refine gd_Bg (pc' := 62) (lv' := [(0, .ref 37), (1, .int v1), (2, .int v2), (3, .int v3), (4, .int v4), (5, .int v5), (6, .int v6), (7, .int v7), (8, .int v8)]) (st' := [.int (h 50 (Int32.toNatClampNeg v8))]) (lay' := LY88) (h' := h) (g := ibB v8 256) rfl e fun e => ?_
    refine seg_Bg (pc' := 83) (lv' := [(0, .ref 37), (1, .int v1), (2, .int v2), (3, .int v3), (4, .int v4), (5, .int v5), (6, .int v6), (7, .int v7), (8, .int v8), (9, .int (h 50 (Int32.toNatClampNeg v8)))]) (st' := [.int (h 50 (Int32.toNatClampNeg v8)), .int v3, .int v2, .int v1, .int ((v6 &&& (h 50 (Int32.toNatClampNeg v8))) ||| (v7 &&& ((h 50 (Int32.toNatClampNeg v8)) ^^^ (-1 : Int32)))), .ref 37]) (lay' := LY88) (h' := h) 15 rfl ?_
    refine call_Bg (a := 199) (la := [(0, .ref 37), (1, .int ((v6 &&& (h 50 (Int32.toNatClampNeg v8))) ||| (v7 &&& ((h 50 (Int32.toNatClampNeg v8)) ^^^ (-1 : Int32))))), (2, .int v1), (3, .int v2), (4, .int v3), (5, .int (h 50 (Int32.toNatClampNeg v8)))]) (np := 86) (lv' := [(0, .ref 37), (1, .int v1), (2, .int v2), (3, .int v3), (4, .int v4), (5, .int v5), (6, .int v6), (7, .int v7), (8, .int v8), (9, .int (h 50 (Int32.toNatClampNeg v8)))]) (rest := []) (res := fun r => ([], LY88, r)) rfl e (fun r e => BJm_offer L xs ((v6 &&& (h 50 (Int32.toNatClampNeg v8))) ||| (v7 &&& ((h 50 (Int32.toNatClampNeg v8)) ^^^ (-1 : Int32)))) v1 v2 v3 (h 50 (Int32.toNatClampNeg v8)) h r e) (fun c3 e => ?_)
    show Bg L xs 201 86 [(0, .ref 37), (1, .int v1), (2, .int v2), (3, .int v3), (4, .int v4), (5, .int v5), (6, .int v6), (7, .int v7), (8, .int v8), (9, .int (h 50 (Int32.toNatClampNeg v8)))] [] LY88 c3 R
    refine seg_Bg (pc' := 41) (lv' := [(0, .ref 37), (1, .int v1), (2, .int v2), (3, .int v3), (4, .int v4), (5, .int v5), (6, .int v6), (7, .int v7), (8, .int (v8 + 1)), (9, .int (h 50 (Int32.toNatClampNeg v8)))]) (st' := []) (lay' := LY88) (h' := c3) 2 rfl ?_
    refine kp_Bg (lv' := [(0, .ref 37), (1, .int v1), (2, .int v2), (3, .int v3), (4, .int v4), (5, .int v5), (6, .int v6), (7, .int v7), (8, .int (v8 + 1))]) rfl rfl ?_
    exact hH (v8 + 1, c3) (Option.some.inj e).symm
  · exact hE (v8, h) (Option.some.inj e).symm
theorem BJm_offerThird_L41 (L : Nat) (xs : Nat → Int32) (v1 v2 v3 v4 v5 v6 v7 : Int32) (R : List Value × Lay × Hp) (C : (Int32 × Hp) → Prop) (hE : ∀ t : Int32 × Hp, C t → Bg L xs 201 92 [(0, .ref 37), (1, .int v1), (2, .int v2), (3, .int v3), (4, .int v4), (5, .int v5), (6, .int v6), (7, .int v7), (8, .int t.1)] [] LY88 t.2 R) (n : Nat) (s : Int32 × Hp) (o : (Int32 × Hp)) (e : loopN n (fun s => Jm_offerThird_L41 v1 v2 v3 v4 v5 v6 v7 s.1 s.2) s = some o) (hC : C o) : Bg L xs 201 41 [(0, .ref 37), (1, .int v1), (2, .int v2), (3, .int v3), (4, .int v4), (5, .int v5), (6, .int v6), (7, .int v7), (8, .int s.1)] [] LY88 s.2 R := by
  refine loop_B (fun s => Jm_offerThird_L41 v1 v2 v3 v4 v5 v6 v7 s.1 s.2) (fun s : Int32 × Hp => Bg L xs 201 41 [(0, .ref 37), (1, .int v1), (2, .int v2), (3, .int v3), (4, .int v4), (5, .int v5), (6, .int v6), (7, .int v7), (8, .int s.1)] [] LY88 s.2 R) C (fun s o e => ?_) n s o e hC
  intro hK
  refine BJm_offerThird_L41_s L xs v1 v2 v3 v4 v5 v6 v7 R s.1 s.2 o (fun s q => by subst q; exact hK) (fun t q => by subst q; exact hE t hK) e
set_option maxRecDepth 100000 in
theorem BJm_offerThird (L : Nat) (xs : Nat → Int32) (v1 : Int32) (v2 : Int32) (v3 : Int32) (v4 : Int32) (h : Hp) (o : Hp) (e : Jm_offerThird v1 v2 v3 v4 h = some o) : Bg L xs 201 0 [(0, .ref 37), (1, .int v1), (2, .int v2), (3, .int v3), (4, .int v4)] [] LY88 h ([], LY88, o) := by
  obtain ⟨R, hR⟩ : ∃ R : List Value × Lay × Hp, R = ([], LY88, o) := ⟨_, rfl⟩
  rw [← hR]
  refine seg_Bg (pc' := 7) (lv' := [(0, .ref 37), (1, .int v1), (2, .int v2), (3, .int v3), (4, .int v4)]) (st' := [.int ((1 : Int32) + v1), .ref 38]) (lay' := LY88) (h' := h) 5 rfl ?_
  refine gd_Bg (pc' := 8) (lv' := [(0, .ref 37), (1, .int v1), (2, .int v2), (3, .int v3), (4, .int v4)]) (st' := [.int (h 38 (Int32.toNatClampNeg ((1 : Int32) + v1)))]) (lay' := LY88) (h' := h) (g := ibB ((1 : Int32) + v1) 152) rfl e fun e => ?_
  refine seg_Bg (pc' := 17) (lv' := [(0, .ref 37), (1, .int v1), (2, .int v2), (3, .int v3), (4, .int v4), (5, .int (h 38 (Int32.toNatClampNeg ((1 : Int32) + v1))))]) (st' := [.int 255, .int v3, .int v2, .int (h 38 (Int32.toNatClampNeg ((1 : Int32) + v1)))]) (lay' := LY88) (h' := h) 5 rfl ?_
  refine call_Bg (a := 177) (la := [(0, .int (h 38 (Int32.toNatClampNeg ((1 : Int32) + v1)))), (1, .int v2), (2, .int v3), (3, .int 255)]) (np := 20) (lv' := [(0, .ref 37), (1, .int v1), (2, .int v2), (3, .int v3), (4, .int v4), (5, .int (h 38 (Int32.toNatClampNeg ((1 : Int32) + v1))))]) (rest := []) (res := fun r => ([.int r], LY88, h)) rfl e (fun r e => BJm_putOn L xs (h 38 (Int32.toNatClampNeg ((1 : Int32) + v1))) v2 v3 255 LY88 h r e) (fun c1 e => ?_)
  show Bg L xs 201 20 [(0, .ref 37), (1, .int v1), (2, .int v2), (3, .int v3), (4, .int v4), (5, .int (h 38 (Int32.toNatClampNeg ((1 : Int32) + v1))))] [.int c1] LY88 h R
  refine seg_Bg (pc' := 27) (lv' := [(0, .ref 37), (1, .int v1), (2, .int v2), (3, .int v3), (4, .int v4), (5, .int (h 38 (Int32.toNatClampNeg ((1 : Int32) + v1)))), (6, .int c1)]) (st' := [.int 0, .int v3, .int v2, .int (h 38 (Int32.toNatClampNeg ((1 : Int32) + v1)))]) (lay' := LY88) (h' := h) 5 rfl ?_
  refine call_Bg (a := 177) (la := [(0, .int (h 38 (Int32.toNatClampNeg ((1 : Int32) + v1)))), (1, .int v2), (2, .int v3), (3, .int 0)]) (np := 30) (lv' := [(0, .ref 37), (1, .int v1), (2, .int v2), (3, .int v3), (4, .int v4), (5, .int (h 38 (Int32.toNatClampNeg ((1 : Int32) + v1)))), (6, .int c1)]) (rest := []) (res := fun r => ([.int r], LY88, h)) rfl e (fun r e => BJm_putOn L xs (h 38 (Int32.toNatClampNeg ((1 : Int32) + v1))) v2 v3 0 LY88 h r e) (fun c2 e => ?_)
  show Bg L xs 201 30 [(0, .ref 37), (1, .int v1), (2, .int v2), (3, .int v3), (4, .int v4), (5, .int (h 38 (Int32.toNatClampNeg ((1 : Int32) + v1)))), (6, .int c1)] [.int c2] LY88 h R
  refine seg_Bg (pc' := 38) (lv' := [(0, .ref 37), (1, .int v1), (2, .int v2), (3, .int v3), (4, .int v4), (5, .int (h 38 (Int32.toNatClampNeg ((1 : Int32) + v1)))), (6, .int c1), (7, .int c2)]) (st' := [.int v4, .ref 51]) (lay' := LY88) (h' := h) 4 rfl ?_
  refine gd_Bg (pc' := 39) (lv' := [(0, .ref 37), (1, .int v1), (2, .int v2), (3, .int v3), (4, .int v4), (5, .int (h 38 (Int32.toNatClampNeg ((1 : Int32) + v1)))), (6, .int c1), (7, .int c2)]) (st' := [.int (h 51 (Int32.toNatClampNeg v4))]) (lay' := LY88) (h' := h) (g := ibB v4 10002) rfl e fun e => ?_
  refine seg_Bg (pc' := 41) (lv' := [(0, .ref 37), (1, .int v1), (2, .int v2), (3, .int v3), (4, .int v4), (5, .int (h 38 (Int32.toNatClampNeg ((1 : Int32) + v1)))), (6, .int c1), (7, .int c2), (8, .int (h 51 (Int32.toNatClampNeg v4)))]) (st' := []) (lay' := LY88) (h' := h) 1 rfl ?_
  obtain ⟨t4o, et4o, e⟩ := bd_s e
  refine BJm_offerThird_L41 L xs v1 v2 v3 v4 (h 38 (Int32.toNatClampNeg ((1 : Int32) + v1))) c1 c2 R (fun (t4 : Int32 × Hp) => (some t4.2) = some o) (fun t4 e => ?_) 1000000 (h 51 (Int32.toNatClampNeg v4), h) _ et4o e
  rw [hR, ← Option.some.inj e]; exact ret_Bg rfl

set_option maxRecDepth 100000 in
theorem BJm_offerSecond_J45 (L : Nat) (xs : Nat → Int32) (v1 v2 v3 v4 s0 : Int32) (h : Hp) (o : ((Int32 × Hp) ⊕ (Int32 × Hp))) (e : Jm_offerSecond_J45 v1 v2 v3 v4 s0 h = some o) (R : List Value × Lay × Hp) (hH : ∀ s : Int32 × Hp, o = .inl s → Bg L xs 202 3 [(0, .ref 37), (1, .int v1), (2, .int v2), (3, .int v3), (4, .int s.1)] [] LY88 s.2 R) (hE : ∀ t : Int32 × Hp, o = .inr t → Bg L xs 202 105 [(0, .ref 37), (1, .int v1), (2, .int v2), (3, .int v3), (4, .int t.1)] [] LY88 t.2 R) : Bg L xs 202 45 [(0, .ref 37), (1, .int v1), (2, .int v2), (3, .int v3), (4, .int v4)] [.int s0] LY88 h R := by
  refine seg_Bg (pc' := (if s0 < 0 then 70 else 52)) (lv' := [(0, .ref 37), (1, .int v1), (2, .int v2), (3, .int v3), (4, .int v4), (5, .int s0)]) (st' := []) (lay' := LY88) (h' := h) 3 rfl ?_
  refine pc_ite e (fun e => ?_) (fun e => ?_)
  · refine seg_Bg (pc' := (if s0 = 0 then 75 else 99)) (lv' := [(0, .ref 37), (1, .int v1), (2, .int v2), (3, .int v3), (4, .int v4), (5, .int s0)]) (st' := []) (lay' := LY88) (h' := h) 2 rfl ?_
    refine pc_ite e (fun e => ?_) (fun e => ?_)
    · refine seg_Bg (pc' := 83) (lv' := [(0, .ref 37), (1, .int v1), (2, .int v2), (3, .int v3), (4, .int v4), (5, .int s0)]) (st' := [.int ((1 : Int32) + v1), .ref 38, .ref 37]) (lay' := LY88) (h' := h) 6 rfl ?_
      refine gd_Bg (pc' := 84) (lv' := [(0, .ref 37), (1, .int v1), (2, .int v2), (3, .int v3), (4, .int v4), (5, .int s0)]) (st' := [.int (h 38 (Int32.toNatClampNeg ((1 : Int32) + v1))), .ref 37]) (lay' := LY88) (h' := h) (g := ibB ((1 : Int32) + v1) 152) rfl e fun e => ?_
      refine seg_Bg (pc' := 88) (lv' := [(0, .ref 37), (1, .int v1), (2, .int v2), (3, .int v3), (4, .int v4), (5, .int s0)]) (st' := [.int 0, .int v4, .int v2, .int (h 38 (Int32.toNatClampNeg ((1 : Int32) + v1))), .ref 37]) (lay' := LY88) (h' := h) 3 rfl ?_
      refine call_Bg (a := 177) (la := [(0, .int (h 38 (Int32.toNatClampNeg ((1 : Int32) + v1)))), (1, .int v2), (2, .int v4), (3, .int 0)]) (np := 91) (lv' := [(0, .ref 37), (1, .int v1), (2, .int v2), (3, .int v3), (4, .int v4), (5, .int s0)]) (rest := [.ref 37]) (res := fun r => ([.int r], LY88, h)) rfl e (fun r e => BJm_putOn L xs (h 38 (Int32.toNatClampNeg ((1 : Int32) + v1))) v2 v4 0 LY88 h r e) (fun c2 e => ?_)
      show Bg L xs 202 91 [(0, .ref 37), (1, .int v1), (2, .int v2), (3, .int v3), (4, .int v4), (5, .int s0)] [.int c2, .ref 37] LY88 h R
      refine seg_Bg (pc' := 96) (lv' := [(0, .ref 37), (1, .int v1), (2, .int v2), (3, .int v3), (4, .int v4), (5, .int s0)]) (st' := [.int (-1), .int v4, .int v2, .int v1, .int c2, .ref 37]) (lay' := LY88) (h' := h) 4 rfl ?_
      refine call_Bg (a := 199) (la := [(0, .ref 37), (1, .int c2), (2, .int v1), (3, .int v2), (4, .int v4), (5, .int (-1))]) (np := 99) (lv' := [(0, .ref 37), (1, .int v1), (2, .int v2), (3, .int v3), (4, .int v4), (5, .int s0)]) (rest := []) (res := fun r => ([], LY88, r)) rfl e (fun r e => BJm_offer L xs c2 v1 v2 v4 (-1) h r e) (fun c3 e => ?_)
      show Bg L xs 202 99 [(0, .ref 37), (1, .int v1), (2, .int v2), (3, .int v3), (4, .int v4), (5, .int s0)] [] LY88 c3 R
      refine seg_Bg (pc' := 3) (lv' := [(0, .ref 37), (1, .int v1), (2, .int v2), (3, .int v3), (4, .int (v4 + 1)), (5, .int s0)]) (st' := []) (lay' := LY88) (h' := c3) 2 rfl ?_
      refine kp_Bg (lv' := [(0, .ref 37), (1, .int v1), (2, .int v2), (3, .int v3), (4, .int (v4 + 1))]) rfl rfl ?_
      exact hH (v4 + 1, c3) (Option.some.inj e).symm
    · refine seg_Bg (pc' := 3) (lv' := [(0, .ref 37), (1, .int v1), (2, .int v2), (3, .int v3), (4, .int (v4 + 1)), (5, .int s0)]) (st' := []) (lay' := LY88) (h' := h) 2 rfl ?_
      refine kp_Bg (lv' := [(0, .ref 37), (1, .int v1), (2, .int v2), (3, .int v3), (4, .int (v4 + 1))]) rfl rfl ?_
      exact hH (v4 + 1, h) (Option.some.inj e).symm
  · refine seg_Bg (pc' := (if v3 = 3 then 57 else 70)) (lv' := [(0, .ref 37), (1, .int v1), (2, .int v2), (3, .int v3), (4, .int v4), (5, .int s0)]) (st' := []) (lay' := LY88) (h' := h) 3 rfl ?_
    refine pc_ite e (fun e => ?_) (fun e => ?_)
    · refine seg_Bg (pc' := 64) (lv' := [(0, .ref 37), (1, .int v1), (2, .int v2), (3, .int v3), (4, .int v4), (5, .int s0)]) (st' := [.int s0, .int v4, .int v2, .int v1, .ref 37]) (lay' := LY88) (h' := h) 5 rfl ?_
      refine call_Bg (a := 201) (la := [(0, .ref 37), (1, .int v1), (2, .int v2), (3, .int v4), (4, .int s0)]) (np := 67) (lv' := [(0, .ref 37), (1, .int v1), (2, .int v2), (3, .int v3), (4, .int v4), (5, .int s0)]) (rest := []) (res := fun r => ([], LY88, r)) rfl e (fun r e => BJm_offerThird L xs v1 v2 v4 s0 h r e) (fun c4 e => ?_)
      show Bg L xs 202 67 [(0, .ref 37), (1, .int v1), (2, .int v2), (3, .int v3), (4, .int v4), (5, .int s0)] [] LY88 c4 R
      refine seg_Bg (pc' := 3) (lv' := [(0, .ref 37), (1, .int v1), (2, .int v2), (3, .int v3), (4, .int (v4 + 1)), (5, .int s0)]) (st' := []) (lay' := LY88) (h' := c4) 3 rfl ?_
      refine kp_Bg (lv' := [(0, .ref 37), (1, .int v1), (2, .int v2), (3, .int v3), (4, .int (v4 + 1))]) rfl rfl ?_
      exact hH (v4 + 1, c4) (Option.some.inj e).symm
    · refine seg_Bg (pc' := (if s0 = 0 then 75 else 99)) (lv' := [(0, .ref 37), (1, .int v1), (2, .int v2), (3, .int v3), (4, .int v4), (5, .int s0)]) (st' := []) (lay' := LY88) (h' := h) 2 rfl ?_
      refine pc_ite e (fun e => ?_) (fun e => ?_)
      · refine seg_Bg (pc' := 83) (lv' := [(0, .ref 37), (1, .int v1), (2, .int v2), (3, .int v3), (4, .int v4), (5, .int s0)]) (st' := [.int ((1 : Int32) + v1), .ref 38, .ref 37]) (lay' := LY88) (h' := h) 6 rfl ?_
        refine gd_Bg (pc' := 84) (lv' := [(0, .ref 37), (1, .int v1), (2, .int v2), (3, .int v3), (4, .int v4), (5, .int s0)]) (st' := [.int (h 38 (Int32.toNatClampNeg ((1 : Int32) + v1))), .ref 37]) (lay' := LY88) (h' := h) (g := ibB ((1 : Int32) + v1) 152) rfl e fun e => ?_
        refine seg_Bg (pc' := 88) (lv' := [(0, .ref 37), (1, .int v1), (2, .int v2), (3, .int v3), (4, .int v4), (5, .int s0)]) (st' := [.int 0, .int v4, .int v2, .int (h 38 (Int32.toNatClampNeg ((1 : Int32) + v1))), .ref 37]) (lay' := LY88) (h' := h) 3 rfl ?_
        refine call_Bg (a := 177) (la := [(0, .int (h 38 (Int32.toNatClampNeg ((1 : Int32) + v1)))), (1, .int v2), (2, .int v4), (3, .int 0)]) (np := 91) (lv' := [(0, .ref 37), (1, .int v1), (2, .int v2), (3, .int v3), (4, .int v4), (5, .int s0)]) (rest := [.ref 37]) (res := fun r => ([.int r], LY88, h)) rfl e (fun r e => BJm_putOn L xs (h 38 (Int32.toNatClampNeg ((1 : Int32) + v1))) v2 v4 0 LY88 h r e) (fun c5 e => ?_)
        show Bg L xs 202 91 [(0, .ref 37), (1, .int v1), (2, .int v2), (3, .int v3), (4, .int v4), (5, .int s0)] [.int c5, .ref 37] LY88 h R
        refine seg_Bg (pc' := 96) (lv' := [(0, .ref 37), (1, .int v1), (2, .int v2), (3, .int v3), (4, .int v4), (5, .int s0)]) (st' := [.int (-1), .int v4, .int v2, .int v1, .int c5, .ref 37]) (lay' := LY88) (h' := h) 4 rfl ?_
        refine call_Bg (a := 199) (la := [(0, .ref 37), (1, .int c5), (2, .int v1), (3, .int v2), (4, .int v4), (5, .int (-1))]) (np := 99) (lv' := [(0, .ref 37), (1, .int v1), (2, .int v2), (3, .int v3), (4, .int v4), (5, .int s0)]) (rest := []) (res := fun r => ([], LY88, r)) rfl e (fun r e => BJm_offer L xs c5 v1 v2 v4 (-1) h r e) (fun c6 e => ?_)
        show Bg L xs 202 99 [(0, .ref 37), (1, .int v1), (2, .int v2), (3, .int v3), (4, .int v4), (5, .int s0)] [] LY88 c6 R
        refine seg_Bg (pc' := 3) (lv' := [(0, .ref 37), (1, .int v1), (2, .int v2), (3, .int v3), (4, .int (v4 + 1)), (5, .int s0)]) (st' := []) (lay' := LY88) (h' := c6) 2 rfl ?_
        refine kp_Bg (lv' := [(0, .ref 37), (1, .int v1), (2, .int v2), (3, .int v3), (4, .int (v4 + 1))]) rfl rfl ?_
        exact hH (v4 + 1, c6) (Option.some.inj e).symm
      · refine seg_Bg (pc' := 3) (lv' := [(0, .ref 37), (1, .int v1), (2, .int v2), (3, .int v3), (4, .int (v4 + 1)), (5, .int s0)]) (st' := []) (lay' := LY88) (h' := h) 2 rfl ?_
        refine kp_Bg (lv' := [(0, .ref 37), (1, .int v1), (2, .int v2), (3, .int v3), (4, .int (v4 + 1))]) rfl rfl ?_
        exact hH (v4 + 1, h) (Option.some.inj e).symm
set_option maxRecDepth 100000 in
theorem BJm_offerSecond_L3_s (L : Nat) (xs : Nat → Int32) (v1 v2 v3 : Int32) (R : List Value × Lay × Hp) (v4 : Int32) (h : Hp) (o : ((Int32 × Hp) ⊕ (Int32 × Hp))) (hH : ∀ s : Int32 × Hp, o = .inl s → Bg L xs 202 3 [(0, .ref 37), (1, .int v1), (2, .int v2), (3, .int v3), (4, .int s.1)] [] LY88 s.2 R) (hE : ∀ t : Int32 × Hp, o = .inr t → Bg L xs 202 105 [(0, .ref 37), (1, .int v1), (2, .int v2), (3, .int v3), (4, .int t.1)] [] LY88 t.2 R) (e : Jm_offerSecond_L3 v1 v2 v3 v4 h = some o) : Bg L xs 202 3 [(0, .ref 37), (1, .int v1), (2, .int v2), (3, .int v3), (4, .int v4)] [] LY88 h R := by
  refine seg_Bg (pc' := (if v4 < 256 then 11 else 105)) (lv' := [(0, .ref 37), (1, .int v1), (2, .int v2), (3, .int v3), (4, .int v4)]) (st' := []) (lay' := LY88) (h' := h) 3 rfl ?_
  refine pc_ite e (fun e => ?_) (fun e => ?_)
  · refine seg_Bg (pc' := 14) (lv' := [(0, .ref 37), (1, .int v1), (2, .int v2), (3, .int v3), (4, .int v4)]) (st' := [.int v4, .ref 37]) (lay' := LY88) (h' := h) 2 rfl ?_
    refine call_Bg (a := 200) (la := [(0, .ref 37), (1, .int v4)]) (np := 17) (lv' := [(0, .ref 37), (1, .int v1), (2, .int v2), (3, .int v3), (4, .int v4)]) (rest := []) (res := fun r => ([.int r], LY88, h)) rfl e (fun r e => BJm_isMade L xs v4 h r e) (fun c1 e => ?_)
    show Bg L xs 202 17 [(0, .ref 37), (1, .int v1), (2, .int v2), (3, .int v3), (4, .int v4)] [.int c1] LY88 h R
    refine seg_Bg (pc' := (if c1 = 0 then 44 else 20)) (lv' := [(0, .ref 37), (1, .int v1), (2, .int v2), (3, .int v3), (4, .int v4)]) (st' := []) (lay' := LY88) (h' := h) 1 rfl ?_
    refine pc_ite e (fun e => ?_) (fun e => ?_)
    · refine seg_Bg (pc' := 45) (lv' := [(0, .ref 37), (1, .int v1), (2, .int v2), (3, .int v3), (4, .int v4)]) (st' := [.int (-1)]) (lay' := LY88) (h' := h) 1 rfl ?_
      exact BJm_offerSecond_J45 L xs v1 v2 v3 v4 (-1) h o e R hH hE
    · refine seg_Bg (pc' := 31) (lv' := [(0, .ref 37), (1, .int v1), (2, .int v2), (3, .int v3), (4, .int v4)]) (st' := [.int v2, .ref 46, .int ((h 37 24) - (1 : Int32))]) (lay' := LY88) (h' := h) 7 rfl ?_
      refine gd_Bg (pc' := 32) (lv' := [(0, .ref 37), (1, .int v1), (2, .int v2), (3, .int v3), (4, .int v4)]) (st' := [.int (h 46 (Int32.toNatClampNeg v2)), .int ((h 37 24) - (1 : Int32))]) (lay' := LY88) (h' := h) (g := ibB v2 256) rfl e fun e => ?_
      refine seg_Bg (pc' := 39) (lv' := [(0, .ref 37), (1, .int v1), (2, .int v2), (3, .int v3), (4, .int v4)]) (st' := [.int v4, .ref 46, .int (((h 37 24) - (1 : Int32)) - (h 46 (Int32.toNatClampNeg v2)))]) (lay' := LY88) (h' := h) 4 rfl ?_
      refine gd_Bg (pc' := 40) (lv' := [(0, .ref 37), (1, .int v1), (2, .int v2), (3, .int v3), (4, .int v4)]) (st' := [.int (h 46 (Int32.toNatClampNeg v4)), .int (((h 37 24) - (1 : Int32)) - (h 46 (Int32.toNatClampNeg v2)))]) (lay' := LY88) (h' := h) (g := ibB v4 256) rfl e fun e => ?_
      refine seg_Bg (pc' := 45) (lv' := [(0, .ref 37), (1, .int v1), (2, .int v2), (3, .int v3), (4, .int v4)]) (st' := [.int ((((h 37 24) - (1 : Int32)) - (h 46 (Int32.toNatClampNeg v2))) - (h 46 (Int32.toNatClampNeg v4)))]) (lay' := LY88) (h' := h) 2 rfl ?_
      exact BJm_offerSecond_J45 L xs v1 v2 v3 v4 ((((h 37 24) - (1 : Int32)) - (h 46 (Int32.toNatClampNeg v2))) - (h 46 (Int32.toNatClampNeg v4))) h o e R hH hE
  · exact hE (v4, h) (Option.some.inj e).symm
theorem BJm_offerSecond_L3 (L : Nat) (xs : Nat → Int32) (v1 v2 v3 : Int32) (R : List Value × Lay × Hp) (C : (Int32 × Hp) → Prop) (hE : ∀ t : Int32 × Hp, C t → Bg L xs 202 105 [(0, .ref 37), (1, .int v1), (2, .int v2), (3, .int v3), (4, .int t.1)] [] LY88 t.2 R) (n : Nat) (s : Int32 × Hp) (o : (Int32 × Hp)) (e : loopN n (fun s => Jm_offerSecond_L3 v1 v2 v3 s.1 s.2) s = some o) (hC : C o) : Bg L xs 202 3 [(0, .ref 37), (1, .int v1), (2, .int v2), (3, .int v3), (4, .int s.1)] [] LY88 s.2 R := by
  refine loop_B (fun s => Jm_offerSecond_L3 v1 v2 v3 s.1 s.2) (fun s : Int32 × Hp => Bg L xs 202 3 [(0, .ref 37), (1, .int v1), (2, .int v2), (3, .int v3), (4, .int s.1)] [] LY88 s.2 R) C (fun s o e => ?_) n s o e hC
  intro hK
  refine BJm_offerSecond_L3_s L xs v1 v2 v3 R s.1 s.2 o (fun s q => by subst q; exact hK) (fun t q => by subst q; exact hE t hK) e
set_option maxRecDepth 100000 in
theorem BJm_offerSecond (L : Nat) (xs : Nat → Int32) (v1 : Int32) (v2 : Int32) (v3 : Int32) (h : Hp) (o : Hp) (e : Jm_offerSecond v1 v2 v3 h = some o) : Bg L xs 202 0 [(0, .ref 37), (1, .int v1), (2, .int v2), (3, .int v3)] [] LY88 h ([], LY88, o) := by
  obtain ⟨R, hR⟩ : ∃ R : List Value × Lay × Hp, R = ([], LY88, o) := ⟨_, rfl⟩
  rw [← hR]
  refine seg_Bg (pc' := 3) (lv' := [(0, .ref 37), (1, .int v1), (2, .int v2), (3, .int v3), (4, .int 0)]) (st' := []) (lay' := LY88) (h' := h) 2 rfl ?_
  obtain ⟨t7o, et7o, e⟩ := bd_s e
  refine BJm_offerSecond_L3 L xs v1 v2 v3 R (fun (t7 : Int32 × Hp) => (some t7.2) = some o) (fun t7 e => ?_) 1000000 (0, h) _ et7o e
  rw [hR, ← Option.some.inj e]; exact ret_Bg rfl

set_option maxRecDepth 100000 in
theorem BJm_offerAll_J78 (L : Nat) (xs : Nat → Int32) (v1 v2 v3 s0 : Int32) (h : Hp) (o : ((Int32 × Hp) ⊕ (Int32 × Hp))) (e : Jm_offerAll_J78 v1 v2 v3 s0 h = some o) (R : List Value × Lay × Hp) (hH : ∀ s : Int32 × Hp, o = .inl s → Bg L xs 203 42 [(0, .ref 37), (1, .int v1), (2, .int v2), (3, .int s.1)] [] LY88 s.2 R) (hE : ∀ t : Int32 × Hp, o = .inr t → Bg L xs 203 133 [(0, .ref 37), (1, .int v1), (2, .int v2), (3, .int t.1)] [] LY88 t.2 R) : Bg L xs 203 78 [(0, .ref 37), (1, .int v1), (2, .int v2), (3, .int v3)] [.int s0] LY88 h R := by
  refine seg_Bg (pc' := (if s0 < 0 then 100 else 85)) (lv' := [(0, .ref 37), (1, .int v1), (2, .int v2), (3, .int v3), (4, .int s0)]) (st' := []) (lay' := LY88) (h' := h) 3 rfl ?_
  refine pc_ite e (fun e => ?_) (fun e => ?_)
  · refine seg_Bg (pc' := (if s0 = 0 then 105 else 127)) (lv' := [(0, .ref 37), (1, .int v1), (2, .int v2), (3, .int v3), (4, .int s0)]) (st' := []) (lay' := LY88) (h' := h) 2 rfl ?_
    refine pc_ite e (fun e => ?_) (fun e => ?_)
    · refine seg_Bg (pc' := 113) (lv' := [(0, .ref 37), (1, .int v1), (2, .int v2), (3, .int v3), (4, .int s0)]) (st' := [.int ((1 : Int32) + v1), .ref 38, .ref 37]) (lay' := LY88) (h' := h) 6 rfl ?_
      refine gd_Bg (pc' := 114) (lv' := [(0, .ref 37), (1, .int v1), (2, .int v2), (3, .int v3), (4, .int s0)]) (st' := [.int (h 38 (Int32.toNatClampNeg ((1 : Int32) + v1))), .ref 37]) (lay' := LY88) (h' := h) (g := ibB ((1 : Int32) + v1) 152) rfl e fun e => ?_
      refine seg_Bg (pc' := 117) (lv' := [(0, .ref 37), (1, .int v1), (2, .int v2), (3, .int v3), (4, .int s0)]) (st' := [.int 0, .int 0, .int v3, .int (h 38 (Int32.toNatClampNeg ((1 : Int32) + v1))), .ref 37]) (lay' := LY88) (h' := h) 3 rfl ?_
      refine call_Bg (a := 177) (la := [(0, .int (h 38 (Int32.toNatClampNeg ((1 : Int32) + v1)))), (1, .int v3), (2, .int 0), (3, .int 0)]) (np := 120) (lv' := [(0, .ref 37), (1, .int v1), (2, .int v2), (3, .int v3), (4, .int s0)]) (rest := [.ref 37]) (res := fun r => ([.int r], LY88, h)) rfl e (fun r e => BJm_putOn L xs (h 38 (Int32.toNatClampNeg ((1 : Int32) + v1))) v3 0 0 LY88 h r e) (fun c4 e => ?_)
      show Bg L xs 203 120 [(0, .ref 37), (1, .int v1), (2, .int v2), (3, .int v3), (4, .int s0)] [.int c4, .ref 37] LY88 h R
      refine seg_Bg (pc' := 124) (lv' := [(0, .ref 37), (1, .int v1), (2, .int v2), (3, .int v3), (4, .int s0)]) (st' := [.int (-1), .int (-1), .int v3, .int v1, .int c4, .ref 37]) (lay' := LY88) (h' := h) 4 rfl ?_
      refine call_Bg (a := 199) (la := [(0, .ref 37), (1, .int c4), (2, .int v1), (3, .int v3), (4, .int (-1)), (5, .int (-1))]) (np := 127) (lv' := [(0, .ref 37), (1, .int v1), (2, .int v2), (3, .int v3), (4, .int s0)]) (rest := []) (res := fun r => ([], LY88, r)) rfl e (fun r e => BJm_offer L xs c4 v1 v3 (-1) (-1) h r e) (fun c5 e => ?_)
      show Bg L xs 203 127 [(0, .ref 37), (1, .int v1), (2, .int v2), (3, .int v3), (4, .int s0)] [] LY88 c5 R
      refine seg_Bg (pc' := 42) (lv' := [(0, .ref 37), (1, .int v1), (2, .int v2), (3, .int (v3 + 1)), (4, .int s0)]) (st' := []) (lay' := LY88) (h' := c5) 2 rfl ?_
      refine kp_Bg (lv' := [(0, .ref 37), (1, .int v1), (2, .int v2), (3, .int (v3 + 1))]) rfl rfl ?_
      exact hH (v3 + 1, c5) (Option.some.inj e).symm
    · refine seg_Bg (pc' := 42) (lv' := [(0, .ref 37), (1, .int v1), (2, .int v2), (3, .int (v3 + 1)), (4, .int s0)]) (st' := []) (lay' := LY88) (h' := h) 2 rfl ?_
      refine kp_Bg (lv' := [(0, .ref 37), (1, .int v1), (2, .int v2), (3, .int (v3 + 1))]) rfl rfl ?_
      exact hH (v3 + 1, h) (Option.some.inj e).symm
  · refine seg_Bg (pc' := (if 1 < v2 then 90 else 100)) (lv' := [(0, .ref 37), (1, .int v1), (2, .int v2), (3, .int v3), (4, .int s0)]) (st' := []) (lay' := LY88) (h' := h) 3 rfl ?_
    refine pc_ite e (fun e => ?_) (fun e => ?_)
    · refine seg_Bg (pc' := 94) (lv' := [(0, .ref 37), (1, .int v1), (2, .int v2), (3, .int v3), (4, .int s0)]) (st' := [.int v2, .int v3, .int v1, .ref 37]) (lay' := LY88) (h' := h) 4 rfl ?_
      refine call_Bg (a := 202) (la := [(0, .ref 37), (1, .int v1), (2, .int v3), (3, .int v2)]) (np := 97) (lv' := [(0, .ref 37), (1, .int v1), (2, .int v2), (3, .int v3), (4, .int s0)]) (rest := []) (res := fun r => ([], LY88, r)) rfl e (fun r e => BJm_offerSecond L xs v1 v3 v2 h r e) (fun c6 e => ?_)
      show Bg L xs 203 97 [(0, .ref 37), (1, .int v1), (2, .int v2), (3, .int v3), (4, .int s0)] [] LY88 c6 R
      refine seg_Bg (pc' := 42) (lv' := [(0, .ref 37), (1, .int v1), (2, .int v2), (3, .int (v3 + 1)), (4, .int s0)]) (st' := []) (lay' := LY88) (h' := c6) 3 rfl ?_
      refine kp_Bg (lv' := [(0, .ref 37), (1, .int v1), (2, .int v2), (3, .int (v3 + 1))]) rfl rfl ?_
      exact hH (v3 + 1, c6) (Option.some.inj e).symm
    · refine seg_Bg (pc' := (if s0 = 0 then 105 else 127)) (lv' := [(0, .ref 37), (1, .int v1), (2, .int v2), (3, .int v3), (4, .int s0)]) (st' := []) (lay' := LY88) (h' := h) 2 rfl ?_
      refine pc_ite e (fun e => ?_) (fun e => ?_)
      · refine seg_Bg (pc' := 113) (lv' := [(0, .ref 37), (1, .int v1), (2, .int v2), (3, .int v3), (4, .int s0)]) (st' := [.int ((1 : Int32) + v1), .ref 38, .ref 37]) (lay' := LY88) (h' := h) 6 rfl ?_
        refine gd_Bg (pc' := 114) (lv' := [(0, .ref 37), (1, .int v1), (2, .int v2), (3, .int v3), (4, .int s0)]) (st' := [.int (h 38 (Int32.toNatClampNeg ((1 : Int32) + v1))), .ref 37]) (lay' := LY88) (h' := h) (g := ibB ((1 : Int32) + v1) 152) rfl e fun e => ?_
        refine seg_Bg (pc' := 117) (lv' := [(0, .ref 37), (1, .int v1), (2, .int v2), (3, .int v3), (4, .int s0)]) (st' := [.int 0, .int 0, .int v3, .int (h 38 (Int32.toNatClampNeg ((1 : Int32) + v1))), .ref 37]) (lay' := LY88) (h' := h) 3 rfl ?_
        refine call_Bg (a := 177) (la := [(0, .int (h 38 (Int32.toNatClampNeg ((1 : Int32) + v1)))), (1, .int v3), (2, .int 0), (3, .int 0)]) (np := 120) (lv' := [(0, .ref 37), (1, .int v1), (2, .int v2), (3, .int v3), (4, .int s0)]) (rest := [.ref 37]) (res := fun r => ([.int r], LY88, h)) rfl e (fun r e => BJm_putOn L xs (h 38 (Int32.toNatClampNeg ((1 : Int32) + v1))) v3 0 0 LY88 h r e) (fun c7 e => ?_)
        show Bg L xs 203 120 [(0, .ref 37), (1, .int v1), (2, .int v2), (3, .int v3), (4, .int s0)] [.int c7, .ref 37] LY88 h R
        refine seg_Bg (pc' := 124) (lv' := [(0, .ref 37), (1, .int v1), (2, .int v2), (3, .int v3), (4, .int s0)]) (st' := [.int (-1), .int (-1), .int v3, .int v1, .int c7, .ref 37]) (lay' := LY88) (h' := h) 4 rfl ?_
        refine call_Bg (a := 199) (la := [(0, .ref 37), (1, .int c7), (2, .int v1), (3, .int v3), (4, .int (-1)), (5, .int (-1))]) (np := 127) (lv' := [(0, .ref 37), (1, .int v1), (2, .int v2), (3, .int v3), (4, .int s0)]) (rest := []) (res := fun r => ([], LY88, r)) rfl e (fun r e => BJm_offer L xs c7 v1 v3 (-1) (-1) h r e) (fun c8 e => ?_)
        show Bg L xs 203 127 [(0, .ref 37), (1, .int v1), (2, .int v2), (3, .int v3), (4, .int s0)] [] LY88 c8 R
        refine seg_Bg (pc' := 42) (lv' := [(0, .ref 37), (1, .int v1), (2, .int v2), (3, .int (v3 + 1)), (4, .int s0)]) (st' := []) (lay' := LY88) (h' := c8) 2 rfl ?_
        refine kp_Bg (lv' := [(0, .ref 37), (1, .int v1), (2, .int v2), (3, .int (v3 + 1))]) rfl rfl ?_
        exact hH (v3 + 1, c8) (Option.some.inj e).symm
      · refine seg_Bg (pc' := 42) (lv' := [(0, .ref 37), (1, .int v1), (2, .int v2), (3, .int (v3 + 1)), (4, .int s0)]) (st' := []) (lay' := LY88) (h' := h) 2 rfl ?_
        refine kp_Bg (lv' := [(0, .ref 37), (1, .int v1), (2, .int v2), (3, .int (v3 + 1))]) rfl rfl ?_
        exact hH (v3 + 1, h) (Option.some.inj e).symm
set_option maxRecDepth 100000 in
theorem BJm_offerAll_L42_s (L : Nat) (xs : Nat → Int32) (v1 v2 : Int32) (R : List Value × Lay × Hp) (v3 : Int32) (h : Hp) (o : ((Int32 × Hp) ⊕ (Int32 × Hp))) (hH : ∀ s : Int32 × Hp, o = .inl s → Bg L xs 203 42 [(0, .ref 37), (1, .int v1), (2, .int v2), (3, .int s.1)] [] LY88 s.2 R) (hE : ∀ t : Int32 × Hp, o = .inr t → Bg L xs 203 133 [(0, .ref 37), (1, .int v1), (2, .int v2), (3, .int t.1)] [] LY88 t.2 R) (e : Jm_offerAll_L42 v1 v2 v3 h = some o) : Bg L xs 203 42 [(0, .ref 37), (1, .int v1), (2, .int v2), (3, .int v3)] [] LY88 h R := by
  refine seg_Bg (pc' := (if v3 < 256 then 49 else 133)) (lv' := [(0, .ref 37), (1, .int v1), (2, .int v2), (3, .int v3)]) (st' := []) (lay' := LY88) (h' := h) 3 rfl ?_
  refine pc_ite e (fun e => ?_) (fun e => ?_)
  · refine seg_Bg (pc' := (if 0 < v2 then 53 else 133)) (lv' := [(0, .ref 37), (1, .int v1), (2, .int v2), (3, .int v3)]) (st' := []) (lay' := LY88) (h' := h) 2 rfl ?_
    refine pc_ite e (fun e => ?_) (fun e => ?_)
    · refine seg_Bg (pc' := 55) (lv' := [(0, .ref 37), (1, .int v1), (2, .int v2), (3, .int v3)]) (st' := [.int v3, .ref 37]) (lay' := LY88) (h' := h) 2 rfl ?_
      refine call_Bg (a := 200) (la := [(0, .ref 37), (1, .int v3)]) (np := 58) (lv' := [(0, .ref 37), (1, .int v1), (2, .int v2), (3, .int v3)]) (rest := []) (res := fun r => ([.int r], LY88, h)) rfl e (fun r e => BJm_isMade L xs v3 h r e) (fun c3 e => ?_)
      show Bg L xs 203 58 [(0, .ref 37), (1, .int v1), (2, .int v2), (3, .int v3)] [.int c3] LY88 h R
      refine seg_Bg (pc' := (if c3 = 0 then 77 else 61)) (lv' := [(0, .ref 37), (1, .int v1), (2, .int v2), (3, .int v3)]) (st' := []) (lay' := LY88) (h' := h) 1 rfl ?_
      refine pc_ite e (fun e => ?_) (fun e => ?_)
      · refine seg_Bg (pc' := 78) (lv' := [(0, .ref 37), (1, .int v1), (2, .int v2), (3, .int v3)]) (st' := [.int (-1)]) (lay' := LY88) (h' := h) 1 rfl ?_
        exact BJm_offerAll_J78 L xs v1 v2 v3 (-1) h o e R hH hE
      · refine seg_Bg (pc' := 72) (lv' := [(0, .ref 37), (1, .int v1), (2, .int v2), (3, .int v3)]) (st' := [.int v3, .ref 46, .int ((h 37 24) - (1 : Int32))]) (lay' := LY88) (h' := h) 7 rfl ?_
        refine gd_Bg (pc' := 73) (lv' := [(0, .ref 37), (1, .int v1), (2, .int v2), (3, .int v3)]) (st' := [.int (h 46 (Int32.toNatClampNeg v3)), .int ((h 37 24) - (1 : Int32))]) (lay' := LY88) (h' := h) (g := ibB v3 256) rfl e fun e => ?_
        refine seg_Bg (pc' := 78) (lv' := [(0, .ref 37), (1, .int v1), (2, .int v2), (3, .int v3)]) (st' := [.int (((h 37 24) - (1 : Int32)) - (h 46 (Int32.toNatClampNeg v3)))]) (lay' := LY88) (h' := h) 2 rfl ?_
        exact BJm_offerAll_J78 L xs v1 v2 v3 (((h 37 24) - (1 : Int32)) - (h 46 (Int32.toNatClampNeg v3))) h o e R hH hE
    · exact hE (v3, h) (Option.some.inj e).symm
  · exact hE (v3, h) (Option.some.inj e).symm
theorem BJm_offerAll_L42 (L : Nat) (xs : Nat → Int32) (v1 v2 : Int32) (R : List Value × Lay × Hp) (C : (Int32 × Hp) → Prop) (hE : ∀ t : Int32 × Hp, C t → Bg L xs 203 133 [(0, .ref 37), (1, .int v1), (2, .int v2), (3, .int t.1)] [] LY88 t.2 R) (n : Nat) (s : Int32 × Hp) (o : (Int32 × Hp)) (e : loopN n (fun s => Jm_offerAll_L42 v1 v2 s.1 s.2) s = some o) (hC : C o) : Bg L xs 203 42 [(0, .ref 37), (1, .int v1), (2, .int v2), (3, .int s.1)] [] LY88 s.2 R := by
  refine loop_B (fun s => Jm_offerAll_L42 v1 v2 s.1 s.2) (fun s : Int32 × Hp => Bg L xs 203 42 [(0, .ref 37), (1, .int v1), (2, .int v2), (3, .int s.1)] [] LY88 s.2 R) C (fun s o e => ?_) n s o e hC
  intro hK
  refine BJm_offerAll_L42_s L xs v1 v2 R s.1 s.2 o (fun s q => by subst q; exact hK) (fun t q => by subst q; exact hE t hK) e
set_option maxRecDepth 100000 in
theorem BJm_offerAll (L : Nat) (xs : Nat → Int32) (v1 : Int32) (h : Hp) (o : Hp) (e : Jm_offerAll v1 h = some o) : Bg L xs 203 0 [(0, .ref 37), (1, .int v1)] [] LY88 h ([], LY88, o) := by
  obtain ⟨R, hR⟩ : ∃ R : List Value × Lay × Hp, R = ([], LY88, o) := ⟨_, rfl⟩
  rw [← hR]
  refine seg_Bg (pc' := 7) (lv' := [(0, .ref 37), (1, .int v1)]) (st' := [.int ((1 : Int32) + v1), .ref 38]) (lay' := LY88) (h' := h) 5 rfl ?_
  refine gd_Bg (pc' := 8) (lv' := [(0, .ref 37), (1, .int v1)]) (st' := [.int (h 38 (Int32.toNatClampNeg ((1 : Int32) + v1)))]) (lay' := LY88) (h' := h) (g := ibB ((1 : Int32) + v1) 152) rfl e fun e => ?_
  refine call_Bg (a := 173) (la := [(0, .int (h 38 (Int32.toNatClampNeg ((1 : Int32) + v1))))]) (np := 11) (lv' := [(0, .ref 37), (1, .int v1)]) (rest := []) (res := fun r => ([.int r], LY88, h)) rfl e (fun r e => BJm_arity L xs (h 38 (Int32.toNatClampNeg ((1 : Int32) + v1))) LY88 h r e) (fun c1 e => ?_)
  show Bg L xs 203 11 [(0, .ref 37), (1, .int v1)] [.int c1] LY88 h R
  refine seg_Bg (pc' := (if c1 = 0 then 16 else 40)) (lv' := [(0, .ref 37), (1, .int v1), (2, .int c1)]) (st' := []) (lay' := LY88) (h' := h) 3 rfl ?_
  refine pc_ite e (fun e => ?_) (fun e => ?_)
  · refine seg_Bg (pc' := (if (h 37 24) = 1 then 24 else 40)) (lv' := [(0, .ref 37), (1, .int v1), (2, .int c1)]) (st' := []) (lay' := LY88) (h' := h) 4 rfl ?_
    refine pc_ite e (fun e => ?_) (fun e => ?_)
    · refine seg_Bg (pc' := 32) (lv' := [(0, .ref 37), (1, .int v1), (2, .int c1)]) (st' := [.int ((1 : Int32) + v1), .ref 38, .ref 37]) (lay' := LY88) (h' := h) 6 rfl ?_
      refine gd_Bg (pc' := 33) (lv' := [(0, .ref 37), (1, .int v1), (2, .int c1)]) (st' := [.int (h 38 (Int32.toNatClampNeg ((1 : Int32) + v1))), .ref 37]) (lay' := LY88) (h' := h) (g := ibB ((1 : Int32) + v1) 152) rfl e fun e => ?_
      refine seg_Bg (pc' := 37) (lv' := [(0, .ref 37), (1, .int v1), (2, .int c1)]) (st' := [.int (-1), .int (-1), .int (-1), .int v1, .int (h 38 (Int32.toNatClampNeg ((1 : Int32) + v1))), .ref 37]) (lay' := LY88) (h' := h) 4 rfl ?_
      refine call_Bg (a := 199) (la := [(0, .ref 37), (1, .int (h 38 (Int32.toNatClampNeg ((1 : Int32) + v1)))), (2, .int v1), (3, .int (-1)), (4, .int (-1)), (5, .int (-1))]) (np := 40) (lv' := [(0, .ref 37), (1, .int v1), (2, .int c1)]) (rest := []) (res := fun r => ([], LY88, r)) rfl e (fun r e => BJm_offer L xs (h 38 (Int32.toNatClampNeg ((1 : Int32) + v1))) v1 (-1) (-1) (-1) h r e) (fun c2 e => ?_)
      show Bg L xs 203 40 [(0, .ref 37), (1, .int v1), (2, .int c1)] [] LY88 c2 R
      refine seg_Bg (pc' := 42) (lv' := [(0, .ref 37), (1, .int v1), (2, .int c1), (3, .int 0)]) (st' := []) (lay' := LY88) (h' := c2) 2 rfl ?_
      obtain ⟨t9o, et9o, e⟩ := bd_s e
      refine BJm_offerAll_L42 L xs v1 c1 R (fun (t9 : Int32 × Hp) => (some t9.2) = some o) (fun t9 e => ?_) 1000000 (0, c2) _ et9o e
      rw [hR, ← Option.some.inj e]; exact ret_Bg rfl
    · refine seg_Bg (pc' := 42) (lv' := [(0, .ref 37), (1, .int v1), (2, .int c1), (3, .int 0)]) (st' := []) (lay' := LY88) (h' := h) 2 rfl ?_
      obtain ⟨t10o, et10o, e⟩ := bd_s e
      refine BJm_offerAll_L42 L xs v1 c1 R (fun (t10 : Int32 × Hp) => (some t10.2) = some o) (fun t10 e => ?_) 1000000 (0, h) _ et10o e
      rw [hR, ← Option.some.inj e]; exact ret_Bg rfl
  · refine seg_Bg (pc' := 42) (lv' := [(0, .ref 37), (1, .int v1), (2, .int c1), (3, .int 0)]) (st' := []) (lay' := LY88) (h' := h) 2 rfl ?_
    obtain ⟨t11o, et11o, e⟩ := bd_s e
    refine BJm_offerAll_L42 L xs v1 c1 R (fun (t11 : Int32 × Hp) => (some t11.2) = some o) (fun t11 e => ?_) 1000000 (0, h) _ et11o e
    rw [hR, ← Option.some.inj e]; exact ret_Bg rfl

set_option maxRecDepth 100000 in
theorem BJm_layCosts_J63 (L : Nat) (xs : Nat → Int32) (v1 v2 s1 s2 : Int32) (h : Hp) (o : ((Int32 × Hp) ⊕ (Int32 × Hp))) (e : Jm_layCosts_J63 v1 v2 s1 s2 h = some o) (R : List Value × Lay × Hp) (hH : ∀ s : Int32 × Hp, o = .inl s → Bg L xs 205 15 [(0, .ref 37), (1, .int s.1)] [] LY88 s.2 R) (hE : ∀ t : Int32 × Hp, o = .inr t → Bg L xs 205 85 [(0, .ref 37), (1, .int t.1)] [] LY88 t.2 R) : Bg L xs 205 63 [(0, .ref 37), (1, .int v1), (2, .int v2)] [.int s2, .int s1, .ref 46] LY88 h R := by
  refine gp_Bg (pc' := 64) (lv' := [(0, .ref 37), (1, .int v1), (2, .int v2)]) (st' := []) (lay' := LY88) (x := hset h 46 (Int32.toNatClampNeg s1) s2) (g := ibB s1 256) rfl e fun h2 e => ?_
  refine seg_Bg (pc' := (if v2 = 0 then 77 else 73)) (lv' := [(0, .ref 37), (1, .int v1), (2, .int v2)]) (st' := [.int v1, .ref 49]) (lay' := LY88) (h' := h2) 5 rfl ?_
  refine pc_ite e (fun e => ?_) (fun e => ?_)
  · refine seg_Bg (pc' := 78) (lv' := [(0, .ref 37), (1, .int v1), (2, .int v2)]) (st' := [.int 0, .int v1, .ref 49]) (lay' := LY88) (h' := h2) 1 rfl ?_
    refine gp_Bg (pc' := 79) (lv' := [(0, .ref 37), (1, .int v1), (2, .int v2)]) (st' := []) (lay' := LY88) (x := hset h2 49 (Int32.toNatClampNeg v1) 0) (g := ibB v1 256) rfl e fun h3 e => ?_
    refine seg_Bg (pc' := 15) (lv' := [(0, .ref 37), (1, .int (v1 + 1)), (2, .int v2)]) (st' := []) (lay' := LY88) (h' := h3) 2 rfl ?_
    refine kp_Bg (lv' := [(0, .ref 37), (1, .int (v1 + 1))]) rfl rfl ?_
    exact hH (v1 + 1, h3) (Option.some.inj e).symm
  · refine seg_Bg (pc' := 78) (lv' := [(0, .ref 37), (1, .int v1), (2, .int v2)]) (st' := [.int 1, .int v1, .ref 49]) (lay' := LY88) (h' := h2) 2 rfl ?_
    refine gp_Bg (pc' := 79) (lv' := [(0, .ref 37), (1, .int v1), (2, .int v2)]) (st' := []) (lay' := LY88) (x := hset h2 49 (Int32.toNatClampNeg v1) 1) (g := ibB v1 256) rfl e fun h4 e => ?_
    refine seg_Bg (pc' := 15) (lv' := [(0, .ref 37), (1, .int (v1 + 1)), (2, .int v2)]) (st' := []) (lay' := LY88) (h' := h4) 2 rfl ?_
    refine kp_Bg (lv' := [(0, .ref 37), (1, .int (v1 + 1))]) rfl rfl ?_
    exact hH (v1 + 1, h4) (Option.some.inj e).symm
set_option maxRecDepth 100000 in
theorem BJm_layCosts_J48 (L : Nat) (xs : Nat → Int32) (v1 s0 : Int32) (h : Hp) (o : ((Int32 × Hp) ⊕ (Int32 × Hp))) (e : Jm_layCosts_J48 v1 s0 h = some o) (R : List Value × Lay × Hp) (hH : ∀ s : Int32 × Hp, o = .inl s → Bg L xs 205 15 [(0, .ref 37), (1, .int s.1)] [] LY88 s.2 R) (hE : ∀ t : Int32 × Hp, o = .inr t → Bg L xs 205 85 [(0, .ref 37), (1, .int t.1)] [] LY88 t.2 R) : Bg L xs 205 48 [(0, .ref 37), (1, .int v1)] [.int s0] LY88 h R := by
  refine seg_Bg (pc' := (if s0 = 0 then 62 else 58)) (lv' := [(0, .ref 37), (1, .int v1), (2, .int s0)]) (st' := [.int v1, .ref 46]) (lay' := LY88) (h' := h) 6 rfl ?_
  refine pc_ite e (fun e => ?_) (fun e => ?_)
  · refine seg_Bg (pc' := 63) (lv' := [(0, .ref 37), (1, .int v1), (2, .int s0)]) (st' := [.int (-1), .int v1, .ref 46]) (lay' := LY88) (h' := h) 1 rfl ?_
    exact BJm_layCosts_J63 L xs v1 s0 v1 (-1) h o e R hH hE
  · refine seg_Bg (pc' := 63) (lv' := [(0, .ref 37), (1, .int v1), (2, .int s0)]) (st' := [.int 0, .int v1, .ref 46]) (lay' := LY88) (h' := h) 2 rfl ?_
    exact BJm_layCosts_J63 L xs v1 s0 v1 0 h o e R hH hE
set_option maxRecDepth 100000 in
theorem BJm_layCosts_L15_s (L : Nat) (xs : Nat → Int32) (R : List Value × Lay × Hp) (v1 : Int32) (h : Hp) (o : ((Int32 × Hp) ⊕ (Int32 × Hp))) (hH : ∀ s : Int32 × Hp, o = .inl s → Bg L xs 205 15 [(0, .ref 37), (1, .int s.1)] [] LY88 s.2 R) (hE : ∀ t : Int32 × Hp, o = .inr t → Bg L xs 205 85 [(0, .ref 37), (1, .int t.1)] [] LY88 t.2 R) (e : Jm_layCosts_L15 v1 h = some o) : Bg L xs 205 15 [(0, .ref 37), (1, .int v1)] [] LY88 h R := by
  refine seg_Bg (pc' := (if v1 < 256 then 22 else 85)) (lv' := [(0, .ref 37), (1, .int v1)]) (st' := []) (lay' := LY88) (h' := h) 3 rfl ?_
  refine pc_ite e (fun e => ?_) (fun e => ?_)
  · refine seg_Bg (pc' := (if v1 = 170 then 43 else 29)) (lv' := [(0, .ref 37), (1, .int v1)]) (st' := []) (lay' := LY88) (h' := h) 3 rfl ?_
    refine pc_ite e (fun e => ?_) (fun e => ?_)
    · refine seg_Bg (pc' := 48) (lv' := [(0, .ref 37), (1, .int v1)]) (st' := [.int 1]) (lay' := LY88) (h' := h) 2 rfl ?_
      exact BJm_layCosts_J48 L xs v1 1 h o e R hH hE
    · refine seg_Bg (pc' := (if v1 = 204 then 43 else 36)) (lv' := [(0, .ref 37), (1, .int v1)]) (st' := []) (lay' := LY88) (h' := h) 3 rfl ?_
      refine pc_ite e (fun e => ?_) (fun e => ?_)
      · refine seg_Bg (pc' := 48) (lv' := [(0, .ref 37), (1, .int v1)]) (st' := [.int 1]) (lay' := LY88) (h' := h) 2 rfl ?_
        exact BJm_layCosts_J48 L xs v1 1 h o e R hH hE
      · refine seg_Bg (pc' := (if v1 = 240 then 43 else 47)) (lv' := [(0, .ref 37), (1, .int v1)]) (st' := []) (lay' := LY88) (h' := h) 3 rfl ?_
        refine pc_ite e (fun e => ?_) (fun e => ?_)
        · refine seg_Bg (pc' := 48) (lv' := [(0, .ref 37), (1, .int v1)]) (st' := [.int 1]) (lay' := LY88) (h' := h) 2 rfl ?_
          exact BJm_layCosts_J48 L xs v1 1 h o e R hH hE
        · refine seg_Bg (pc' := 48) (lv' := [(0, .ref 37), (1, .int v1)]) (st' := [.int 0]) (lay' := LY88) (h' := h) 1 rfl ?_
          exact BJm_layCosts_J48 L xs v1 0 h o e R hH hE
  · exact hE (v1, h) (Option.some.inj e).symm
theorem BJm_layCosts_L15 (L : Nat) (xs : Nat → Int32) (R : List Value × Lay × Hp) (C : (Int32 × Hp) → Prop) (hE : ∀ t : Int32 × Hp, C t → Bg L xs 205 85 [(0, .ref 37), (1, .int t.1)] [] LY88 t.2 R) (n : Nat) (s : Int32 × Hp) (o : (Int32 × Hp)) (e : loopN n (fun s => Jm_layCosts_L15 s.1 s.2) s = some o) (hC : C o) : Bg L xs 205 15 [(0, .ref 37), (1, .int s.1)] [] LY88 s.2 R := by
  refine loop_B (fun s => Jm_layCosts_L15 s.1 s.2) (fun s : Int32 × Hp => Bg L xs 205 15 [(0, .ref 37), (1, .int s.1)] [] LY88 s.2 R) C (fun s o e => ?_) n s o e hC
  intro hK
  refine BJm_layCosts_L15_s L xs R s.1 s.2 o (fun s q => by subst q; exact hK) (fun t q => by subst q; exact hE t hK) e
set_option maxRecDepth 100000 in
theorem BJm_layCosts_L124_s (L : Nat) (xs : Nat → Int32) (v1 v2 v3 : Int32) (R : List Value × Lay × Hp) (v4 : Int32) (h : Hp) (o : ((Int32 × Hp) ⊕ (Int32 × Hp))) (hH : ∀ s : Int32 × Hp, o = .inl s → Bg L xs 205 124 [(0, .ref 37), (1, .int v1), (2, .int v2), (3, .int v3), (4, .int s.1)] [] LY88 s.2 R) (hE : ∀ t : Int32 × Hp, o = .inr t → Bg L xs 205 162 [(0, .ref 37), (1, .int v1), (2, .int v2), (3, .int v3), (4, .int t.1)] [] LY88 t.2 R) (e : Jm_layCosts_L124 v1 v2 v3 v4 h = some o) : Bg L xs 205 124 [(0, .ref 37), (1, .int v1), (2, .int v2), (3, .int v3), (4, .int v4)] [] LY88 h R := by
  refine seg_Bg (pc' := (if v4 < (h 38 0) then 135 else 162)) (lv' := [(0, .ref 37), (1, .int v1), (2, .int v2), (3, .int v3), (4, .int v4)]) (st' := []) (lay' := LY88) (h' := h) 6 rfl ?_
  refine pc_ite e (fun e => ?_) (fun e => ?_)
  · refine seg_Bg (pc' := 144) (lv' := [(0, .ref 37), (1, .int v1), (2, .int v2), (3, .int v3), (4, .int v4)]) (st' := [.int v4, .int (h 38 7)]) (lay' := LY88) (h' := h) 5 rfl ?_
    refine call_Bg (a := 167) (la := [(0, .int (h 38 7)), (1, .int v4)]) (np := 147) (lv' := [(0, .ref 37), (1, .int v1), (2, .int v2), (3, .int v3), (4, .int v4)]) (rest := []) (res := fun r => ([.int r], LY88, h)) rfl e (fun r e => BJm_has L xs (h 38 7) v4 LY88 h r e) (fun c9 e => ?_)
    show Bg L xs 205 147 [(0, .ref 37), (1, .int v1), (2, .int v2), (3, .int v3), (4, .int v4)] [.int c9] LY88 h R
    refine seg_Bg (pc' := (if c9 = 0 then 156 else 150)) (lv' := [(0, .ref 37), (1, .int v1), (2, .int v2), (3, .int v3), (4, .int v4)]) (st' := []) (lay' := LY88) (h' := h) 1 rfl ?_
    refine pc_ite e (fun e => ?_) (fun e => ?_)
    · refine seg_Bg (pc' := 124) (lv' := [(0, .ref 37), (1, .int v1), (2, .int v2), (3, .int v3), (4, .int (v4 + 1))]) (st' := []) (lay' := LY88) (h' := h) 2 rfl ?_
      exact hH (v4 + 1, h) (Option.some.inj e).symm
    · refine seg_Bg (pc' := 153) (lv' := [(0, .ref 37), (1, .int v1), (2, .int v2), (3, .int v3), (4, .int v4)]) (st' := [.int v4, .ref 37]) (lay' := LY88) (h' := h) 2 rfl ?_
      refine call_Bg (a := 203) (la := [(0, .ref 37), (1, .int v4)]) (np := 156) (lv' := [(0, .ref 37), (1, .int v1), (2, .int v2), (3, .int v3), (4, .int v4)]) (rest := []) (res := fun r => ([], LY88, r)) rfl e (fun r e => BJm_offerAll L xs v4 h r e) (fun c10 e => ?_)
      show Bg L xs 205 156 [(0, .ref 37), (1, .int v1), (2, .int v2), (3, .int v3), (4, .int v4)] [] LY88 c10 R
      refine seg_Bg (pc' := 124) (lv' := [(0, .ref 37), (1, .int v1), (2, .int v2), (3, .int v3), (4, .int (v4 + 1))]) (st' := []) (lay' := LY88) (h' := c10) 2 rfl ?_
      exact hH (v4 + 1, c10) (Option.some.inj e).symm
  · exact hE (v4, h) (Option.some.inj e).symm
theorem BJm_layCosts_L124 (L : Nat) (xs : Nat → Int32) (v1 v2 v3 : Int32) (R : List Value × Lay × Hp) (C : (Int32 × Hp) → Prop) (hE : ∀ t : Int32 × Hp, C t → Bg L xs 205 162 [(0, .ref 37), (1, .int v1), (2, .int v2), (3, .int v3), (4, .int t.1)] [] LY88 t.2 R) (n : Nat) (s : Int32 × Hp) (o : (Int32 × Hp)) (e : loopN n (fun s => Jm_layCosts_L124 v1 v2 v3 s.1 s.2) s = some o) (hC : C o) : Bg L xs 205 124 [(0, .ref 37), (1, .int v1), (2, .int v2), (3, .int v3), (4, .int s.1)] [] LY88 s.2 R := by
  refine loop_B (fun s => Jm_layCosts_L124 v1 v2 v3 s.1 s.2) (fun s : Int32 × Hp => Bg L xs 205 124 [(0, .ref 37), (1, .int v1), (2, .int v2), (3, .int v3), (4, .int s.1)] [] LY88 s.2 R) C (fun s o e => ?_) n s o e hC
  intro hK
  refine BJm_layCosts_L124_s L xs v1 v2 v3 R s.1 s.2 o (fun s q => by subst q; exact hK) (fun t q => by subst q; exact hE t hK) e
set_option maxRecDepth 100000 in
theorem BJm_layCosts_L100_s (L : Nat) (xs : Nat → Int32) (R : List Value × Lay × Hp) (v1 v2 v3 : Int32) (h : Hp) (o : ((Int32 × Int32 × Int32 × Hp) ⊕ (Int32 × Int32 × Int32 × Hp))) (hH : ∀ s : Int32 × Int32 × Int32 × Hp, o = .inl s → Bg L xs 205 100 [(0, .ref 37), (1, .int s.1), (2, .int s.2.1), (3, .int s.2.2.1)] [] LY88 s.2.2.2 R) (hE : ∀ t : Int32 × Int32 × Int32 × Hp, o = .inr t → Bg L xs 205 189 [(0, .ref 37), (1, .int t.1), (2, .int t.2.1), (3, .int t.2.2.1)] [] LY88 t.2.2.2 R) (e : Jm_layCosts_L100 v1 v2 v3 h = some o) : Bg L xs 205 100 [(0, .ref 37), (1, .int v1), (2, .int v2), (3, .int v3)] [] LY88 h R := by
  refine seg_Bg (pc' := (if 9999 < v3 then 189 else 107)) (lv' := [(0, .ref 37), (1, .int v1), (2, .int v2), (3, .int v3)]) (st' := []) (lay' := LY88) (h' := h) 3 rfl ?_
  refine pc_ite e (fun e => ?_) (fun e => ?_)
  · exact hE (v1, v2, v3, h) (Option.some.inj e).symm
  · refine seg_Bg (pc' := (if (((3 : Int32) * v2) + (1 : Int32)) < v3 then 189 else 116)) (lv' := [(0, .ref 37), (1, .int v1), (2, .int v2), (3, .int v3)]) (st' := []) (lay' := LY88) (h' := h) 7 rfl ?_
    refine pc_ite e (fun e => ?_) (fun e => ?_)
    · exact hE (v1, v2, v3, h) (Option.some.inj e).symm
    · refine seg_Bg (pc' := 118) (lv' := [(0, .ref 37), (1, .int v1), (2, .int v2), (3, .int v3)]) (st' := [.int v3, .ref 37]) (lay' := LY88) (h' := h) 2 rfl ?_
      refine put_Bg (pc' := 121) (lv' := [(0, .ref 37), (1, .int v1), (2, .int v2), (3, .int v3)]) (st' := []) (lay' := LY88) (x := hset h 37 24 v3) rfl e fun h8 e => ?_
      refine seg_Bg (pc' := 124) (lv' := [(0, .ref 37), (1, .int v1), (2, .int v2), (3, .int v3), (4, .int 0)]) (st' := []) (lay' := LY88) (h' := h8) 2 rfl ?_
      obtain ⟨t11o, et11o, e⟩ := bd_s e
      refine BJm_layCosts_L124 L xs v1 v2 v3 R (fun (t11 : Int32 × Hp) => (bd (Jm_closeLevel v1 t11.2) fun c12 => if v1 < c12.1 then some (.inl (c12.1, v3, v3 + 1, c12.2)) else some (.inl (c12.1, v2, v3 + 1, c12.2))) = some o) (fun t11 e => ?_) 1000000 (0, h8) _ et11o e
      refine seg_Bg (pc' := 167) (lv' := [(0, .ref 37), (1, .int v1), (2, .int v2), (3, .int v3), (4, .int v1)]) (st' := [.int v1, .ref 37]) (lay' := LY88) (h' := t11.2) 4 rfl ?_
      refine call_Bg (a := 204) (la := [(0, .ref 37), (1, .int v1)]) (np := 170) (lv' := [(0, .ref 37), (1, .int v1), (2, .int v2), (3, .int v3), (4, .int v1)]) (rest := []) (res := fun r => ([.int r.1], LY88, r.2)) rfl e (fun r e => BJm_closeLevel L xs v1 t11.2 r e) (fun c12 e => ?_)
      show Bg L xs 205 170 [(0, .ref 37), (1, .int v1), (2, .int v2), (3, .int v3), (4, .int v1)] [.int c12.1] LY88 c12.2 R
      refine seg_Bg (pc' := (if v1 < c12.1 then 177 else 181)) (lv' := [(0, .ref 37), (1, .int c12.1), (2, .int v2), (3, .int v3), (4, .int v1)]) (st' := []) (lay' := LY88) (h' := c12.2) 4 rfl ?_
      refine pc_ite e (fun e => ?_) (fun e => ?_)
      · refine seg_Bg (pc' := 100) (lv' := [(0, .ref 37), (1, .int c12.1), (2, .int v3), (3, .int (v3 + 1)), (4, .int v1)]) (st' := []) (lay' := LY88) (h' := c12.2) 5 rfl ?_
        refine kp_Bg (lv' := [(0, .ref 37), (1, .int c12.1), (2, .int v3), (3, .int (v3 + 1))]) rfl rfl ?_
        exact hH (c12.1, v3, v3 + 1, c12.2) (Option.some.inj e).symm
      · refine seg_Bg (pc' := 100) (lv' := [(0, .ref 37), (1, .int c12.1), (2, .int v2), (3, .int (v3 + 1)), (4, .int v1)]) (st' := []) (lay' := LY88) (h' := c12.2) 4 rfl ?_
        refine kp_Bg (lv' := [(0, .ref 37), (1, .int c12.1), (2, .int v2), (3, .int (v3 + 1))]) rfl rfl ?_
        exact hH (c12.1, v2, v3 + 1, c12.2) (Option.some.inj e).symm
theorem BJm_layCosts_L100 (L : Nat) (xs : Nat → Int32) (R : List Value × Lay × Hp) (C : (Int32 × Int32 × Int32 × Hp) → Prop) (hE : ∀ t : Int32 × Int32 × Int32 × Hp, C t → Bg L xs 205 189 [(0, .ref 37), (1, .int t.1), (2, .int t.2.1), (3, .int t.2.2.1)] [] LY88 t.2.2.2 R) (n : Nat) (s : Int32 × Int32 × Int32 × Hp) (o : (Int32 × Int32 × Int32 × Hp)) (e : loopN n (fun s => Jm_layCosts_L100 s.1 s.2.1 s.2.2.1 s.2.2.2) s = some o) (hC : C o) : Bg L xs 205 100 [(0, .ref 37), (1, .int s.1), (2, .int s.2.1), (3, .int s.2.2.1)] [] LY88 s.2.2.2 R := by
  refine loop_B (fun s => Jm_layCosts_L100 s.1 s.2.1 s.2.2.1 s.2.2.2) (fun s : Int32 × Int32 × Int32 × Hp => Bg L xs 205 100 [(0, .ref 37), (1, .int s.1), (2, .int s.2.1), (3, .int s.2.2.1)] [] LY88 s.2.2.2 R) C (fun s o e => ?_) n s o e hC
  intro hK
  refine BJm_layCosts_L100_s L xs R s.1 s.2.1 s.2.2.1 s.2.2.2 o (fun s q => by subst q; exact hK) (fun t q => by subst q; exact hE t hK) e
set_option maxRecDepth 100000 in
theorem BJm_layCosts (L : Nat) (xs : Nat → Int32) (h : Hp) (o : Hp) (e : Jm_layCosts h = some o) : Bg L xs 205 0 [(0, .ref 37)] [] LY88 h ([], LY88, o) := by
  obtain ⟨R, hR⟩ : ∃ R : List Value × Lay × Hp, R = ([], LY88, o) := ⟨_, rfl⟩
  rw [← hR]
  refine seg_Bg (pc' := (if (h 37 23) = 0 then 8 else 7)) (lv' := [(0, .ref 37)]) (st' := []) (lay' := LY88) (h' := h) 3 rfl ?_
  refine pc_ite e (fun e => ?_) (fun e => ?_)
  · refine seg_Bg (pc' := 10) (lv' := [(0, .ref 37)]) (st' := [.int 1, .ref 37]) (lay' := LY88) (h' := h) 2 rfl ?_
    refine put_Bg (pc' := 13) (lv' := [(0, .ref 37)]) (st' := []) (lay' := LY88) (x := hset h 37 23 1) rfl e fun h1 e => ?_
    refine seg_Bg (pc' := 15) (lv' := [(0, .ref 37), (1, .int 0)]) (st' := []) (lay' := LY88) (h' := h1) 2 rfl ?_
    obtain ⟨t5o, et5o, e⟩ := bd_s e
    refine BJm_layCosts_L15 L xs R (fun (t5 : Int32 × Hp) => (lt (hset t5.2 37 24 0) fun h6 => bd (Jm_closeLevel 0 h6) fun c7 => bd (loopN 1000000 (fun s => Jm_layCosts_L100 s.1 s.2.1 s.2.2.1 s.2.2.2) (c7.1, 0, 1, c7.2)) fun (t13 : Int32 × Int32 × Int32 × Hp) => some t13.2.2.2) = some o) (fun t5 e => ?_) 1000000 (0, h1) _ et5o e
    refine seg_Bg (pc' := 87) (lv' := [(0, .ref 37), (1, .int t5.1)]) (st' := [.int 0, .ref 37]) (lay' := LY88) (h' := t5.2) 2 rfl ?_
    refine put_Bg (pc' := 90) (lv' := [(0, .ref 37), (1, .int t5.1)]) (st' := []) (lay' := LY88) (x := hset t5.2 37 24 0) rfl e fun h6 e => ?_
    refine seg_Bg (pc' := 92) (lv' := [(0, .ref 37), (1, .int t5.1)]) (st' := [.int 0, .ref 37]) (lay' := LY88) (h' := h6) 2 rfl ?_
    refine call_Bg (a := 204) (la := [(0, .ref 37), (1, .int 0)]) (np := 95) (lv' := [(0, .ref 37), (1, .int t5.1)]) (rest := []) (res := fun r => ([.int r.1], LY88, r.2)) rfl e (fun r e => BJm_closeLevel L xs 0 h6 r e) (fun c7 e => ?_)
    show Bg L xs 205 95 [(0, .ref 37), (1, .int t5.1)] [.int c7.1] LY88 c7.2 R
    refine seg_Bg (pc' := 100) (lv' := [(0, .ref 37), (1, .int c7.1), (2, .int 0), (3, .int 1)]) (st' := []) (lay' := LY88) (h' := c7.2) 5 rfl ?_
    obtain ⟨t13o, et13o, e⟩ := bd_s e
    refine BJm_layCosts_L100 L xs R (fun (t13 : Int32 × Int32 × Int32 × Hp) => (some t13.2.2.2) = some o) (fun t13 e => ?_) 1000000 (c7.1, 0, 1, c7.2) _ et13o e
    rw [hR, ← Option.some.inj e]; exact ret_Bg rfl
  · rw [hR, ← Option.some.inj e]; exact ret_Bg rfl

set_option maxRecDepth 100000 in
theorem BJm_madeMany_L8_s (L : Nat) (xs : Nat → Int32) (h : Hp) (R : List Value × Lay × Hp) (v1 v2 : Int32) (o : ((Int32 × Int32) ⊕ (Int32 × Int32))) (hH : ∀ s : Int32 × Int32, o = .inl s → Bg L xs 206 8 [(0, .ref 37), (1, .int s.1), (2, .int s.2)] [] LY88 h R) (hE : ∀ t : Int32 × Int32, o = .inr t → Bg L xs 206 38 [(0, .ref 37), (1, .int t.1), (2, .int t.2)] [] LY88 h R) (e : Jm_madeMany_L8 h v1 v2 = some o) : Bg L xs 206 8 [(0, .ref 37), (1, .int v1), (2, .int v2)] [] LY88 h R := by
  refine seg_Bg (pc' := (if v2 < 256 then 15 else 38)) (lv' := [(0, .ref 37), (1, .int v1), (2, .int v2)]) (st' := []) (lay' := LY88) (h' := h) 3 rfl ?_
  refine pc_ite e (fun e => ?_) (fun e => ?_)
  · refine seg_Bg (pc' := 21) (lv' := [(0, .ref 37), (1, .int v1), (2, .int v2)]) (st' := [.int v2, .ref 46, .int v1]) (lay' := LY88) (h' := h) 4 rfl ?_
    refine gd_Bg (pc' := 22) (lv' := [(0, .ref 37), (1, .int v1), (2, .int v2)]) (st' := [.int (h 46 (Int32.toNatClampNeg v2)), .int v1]) (lay' := LY88) (h' := h) (g := ibB v2 256) rfl e fun e => ?_
    refine seg_Bg (pc' := (if (h 46 (Int32.toNatClampNeg v2)) < 0 then 29 else 25)) (lv' := [(0, .ref 37), (1, .int v1), (2, .int v2)]) (st' := [.int v1]) (lay' := LY88) (h' := h) 1 rfl ?_
    refine pc_ite e (fun e => ?_) (fun e => ?_)
    · refine seg_Bg (pc' := 8) (lv' := [(0, .ref 37), (1, .int (v1 + (0 : Int32))), (2, .int (v2 + 1))]) (st' := []) (lay' := LY88) (h' := h) 5 rfl ?_
      exact hH (v1 + (0 : Int32), v2 + 1) (Option.some.inj e).symm
    · refine seg_Bg (pc' := 8) (lv' := [(0, .ref 37), (1, .int (v1 + (1 : Int32))), (2, .int (v2 + 1))]) (st' := []) (lay' := LY88) (h' := h) 6 rfl ?_
      exact hH (v1 + (1 : Int32), v2 + 1) (Option.some.inj e).symm
  · exact hE (v1, v2) (Option.some.inj e).symm
theorem BJm_madeMany_L8 (L : Nat) (xs : Nat → Int32) (h : Hp) (R : List Value × Lay × Hp) (C : (Int32 × Int32) → Prop) (hE : ∀ t : Int32 × Int32, C t → Bg L xs 206 38 [(0, .ref 37), (1, .int t.1), (2, .int t.2)] [] LY88 h R) (n : Nat) (s : Int32 × Int32) (o : (Int32 × Int32)) (e : loopN n (fun s => Jm_madeMany_L8 h s.1 s.2) s = some o) (hC : C o) : Bg L xs 206 8 [(0, .ref 37), (1, .int s.1), (2, .int s.2)] [] LY88 h R := by
  refine loop_B (fun s => Jm_madeMany_L8 h s.1 s.2) (fun s : Int32 × Int32 => Bg L xs 206 8 [(0, .ref 37), (1, .int s.1), (2, .int s.2)] [] LY88 h R) C (fun s o e => ?_) n s o e hC
  intro hK
  refine BJm_madeMany_L8_s L xs h R s.1 s.2 o (fun s q => by subst q; exact hK) (fun t q => by subst q; exact hE t hK) e
set_option maxRecDepth 100000 in
theorem BJm_madeMany (L : Nat) (xs : Nat → Int32) (h : Hp) (o : Int32 × Hp) (e : Jm_madeMany h = some o) : Bg L xs 206 0 [(0, .ref 37)] [] LY88 h ([.int o.1], LY88, o.2) := by
  obtain ⟨R, hR⟩ : ∃ R : List Value × Lay × Hp, R = ([.int o.1], LY88, o.2) := ⟨_, rfl⟩
  rw [← hR]
  refine seg_Bg (pc' := 1) (lv' := [(0, .ref 37)]) (st' := [.ref 37]) (lay' := LY88) (h' := h) 1 rfl ?_
  refine call_Bg (a := 205) (la := [(0, .ref 37)]) (np := 4) (lv' := [(0, .ref 37)]) (rest := []) (res := fun r => ([], LY88, r)) rfl e (fun r e => BJm_layCosts L xs h r e) (fun c1 e => ?_)
  show Bg L xs 206 4 [(0, .ref 37)] [] LY88 c1 R
  refine seg_Bg (pc' := 8) (lv' := [(0, .ref 37), (1, .int 0), (2, .int 0)]) (st' := []) (lay' := LY88) (h' := c1) 4 rfl ?_
  obtain ⟨t2o, et2o, e⟩ := bd_s e
  refine BJm_madeMany_L8 L xs c1 R (fun (t2 : Int32 × Int32) => (some (t2.1, c1)) = some o) (fun t2 e => ?_) 1000000 (0, 0) _ et2o e
  refine seg_Bg (pc' := 39) (lv' := [(0, .ref 37), (1, .int t2.1), (2, .int t2.2)]) (st' := [.int t2.1]) (lay' := LY88) (h' := c1) 1 rfl ?_
  rw [hR, ← Option.some.inj e]; exact ret_Bg rfl

set_option maxRecDepth 100000 in
theorem BJm_dearestCode_L12_s (L : Nat) (xs : Nat → Int32) (h : Hp) (R : List Value × Lay × Hp) (v1 v2 : Int32) (o : ((Int32 × Int32) ⊕ (Int32 × Int32))) (hH : ∀ s : Int32 × Int32, o = .inl s → Bg L xs 207 12 [(0, .ref 37), (1, .int s.1), (2, .int s.2)] [] LY88 h R) (hE : ∀ t : Int32 × Int32, o = .inr t → Bg L xs 207 43 [(0, .ref 37), (1, .int t.1), (2, .int t.2)] [] LY88 h R) (e : Jm_dearestCode_L12 h v1 v2 = some o) : Bg L xs 207 12 [(0, .ref 37), (1, .int v1), (2, .int v2)] [] LY88 h R := by
  refine seg_Bg (pc' := (if v2 < 0 then 43 else 16)) (lv' := [(0, .ref 37), (1, .int v1), (2, .int v2)]) (st' := []) (lay' := LY88) (h' := h) 2 rfl ?_
  refine pc_ite e (fun e => ?_) (fun e => ?_)
  · exact hE (v1, v2) (Option.some.inj e).symm
  · refine seg_Bg (pc' := 21) (lv' := [(0, .ref 37), (1, .int v1), (2, .int v2)]) (st' := [.int v2, .ref 46]) (lay' := LY88) (h' := h) 3 rfl ?_
    refine gd_Bg (pc' := 22) (lv' := [(0, .ref 37), (1, .int v1), (2, .int v2)]) (st' := [.int (h 46 (Int32.toNatClampNeg v2))]) (lay' := LY88) (h' := h) (g := ibB v2 256) rfl e fun e => ?_
    refine seg_Bg (pc' := 27) (lv' := [(0, .ref 37), (1, .int v1), (2, .int v2)]) (st' := [.int v1, .ref 46, .int (h 46 (Int32.toNatClampNeg v2))]) (lay' := LY88) (h' := h) 3 rfl ?_
    refine gd_Bg (pc' := 28) (lv' := [(0, .ref 37), (1, .int v1), (2, .int v2)]) (st' := [.int (h 46 (Int32.toNatClampNeg v1)), .int (h 46 (Int32.toNatClampNeg v2))]) (lay' := LY88) (h' := h) (g := ibB v1 256) rfl e fun e => ?_
    refine seg_Bg (pc' := (if (h 46 (Int32.toNatClampNeg v2)) < (h 46 (Int32.toNatClampNeg v1)) then 35 else 31)) (lv' := [(0, .ref 37), (1, .int v1), (2, .int v2)]) (st' := []) (lay' := LY88) (h' := h) 1 rfl ?_
    refine pc_ite e (fun e => ?_) (fun e => ?_)
    · refine seg_Bg (pc' := 12) (lv' := [(0, .ref 37), (1, .int v1), (2, .int (v2 + (-1)))]) (st' := []) (lay' := LY88) (h' := h) 4 rfl ?_
      exact hH (v1, v2 + (-1)) (Option.some.inj e).symm
    · refine seg_Bg (pc' := 12) (lv' := [(0, .ref 37), (1, .int v2), (2, .int (v2 + (-1)))]) (st' := []) (lay' := LY88) (h' := h) 5 rfl ?_
      exact hH (v2, v2 + (-1)) (Option.some.inj e).symm
theorem BJm_dearestCode_L12 (L : Nat) (xs : Nat → Int32) (h : Hp) (R : List Value × Lay × Hp) (C : (Int32 × Int32) → Prop) (hE : ∀ t : Int32 × Int32, C t → Bg L xs 207 43 [(0, .ref 37), (1, .int t.1), (2, .int t.2)] [] LY88 h R) (n : Nat) (s : Int32 × Int32) (o : (Int32 × Int32)) (e : loopN n (fun s => Jm_dearestCode_L12 h s.1 s.2) s = some o) (hC : C o) : Bg L xs 207 12 [(0, .ref 37), (1, .int s.1), (2, .int s.2)] [] LY88 h R := by
  refine loop_B (fun s => Jm_dearestCode_L12 h s.1 s.2) (fun s : Int32 × Int32 => Bg L xs 207 12 [(0, .ref 37), (1, .int s.1), (2, .int s.2)] [] LY88 h R) C (fun s o e => ?_) n s o e hC
  intro hK
  refine BJm_dearestCode_L12_s L xs h R s.1 s.2 o (fun s q => by subst q; exact hK) (fun t q => by subst q; exact hE t hK) e
set_option maxRecDepth 100000 in
theorem BJm_dearestCode (L : Nat) (xs : Nat → Int32) (h : Hp) (o : Int32 × Hp) (e : Jm_dearestCode h = some o) : Bg L xs 207 0 [(0, .ref 37)] [] LY88 h ([.int o.1], LY88, o.2) := by
  obtain ⟨R, hR⟩ : ∃ R : List Value × Lay × Hp, R = ([.int o.1], LY88, o.2) := ⟨_, rfl⟩
  rw [← hR]
  refine seg_Bg (pc' := 1) (lv' := [(0, .ref 37)]) (st' := [.ref 37]) (lay' := LY88) (h' := h) 1 rfl ?_
  refine call_Bg (a := 205) (la := [(0, .ref 37)]) (np := 4) (lv' := [(0, .ref 37)]) (rest := []) (res := fun r => ([], LY88, r)) rfl e (fun r e => BJm_layCosts L xs h r e) (fun c1 e => ?_)
  show Bg L xs 207 4 [(0, .ref 37)] [] LY88 c1 R
  refine seg_Bg (pc' := 12) (lv' := [(0, .ref 37), (1, .int 170), (2, .int 255)]) (st' := []) (lay' := LY88) (h' := c1) 4 rfl ?_
  obtain ⟨t2o, et2o, e⟩ := bd_s e
  refine BJm_dearestCode_L12 L xs c1 R (fun (t2 : Int32 × Int32) => (some (t2.1, c1)) = some o) (fun t2 e => ?_) 1000000 (170, 255) _ et2o e
  refine seg_Bg (pc' := 44) (lv' := [(0, .ref 37), (1, .int t2.1), (2, .int t2.2)]) (st' := [.int t2.1]) (lay' := LY88) (h' := c1) 1 rfl ?_
  rw [hR, ← Option.some.inj e]; exact ret_Bg rfl

