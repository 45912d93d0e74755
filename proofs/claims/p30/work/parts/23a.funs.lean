/-! Runs of the small machine are the functions of the methods. (Written by wip/p30/gen3.py.) -/
set_option maxRecDepth 100000 in
theorem BJfm_init (L : Nat) (xs : Nat → Int32) (h : Hp) (o : Hp) (e : Jfm_init h = some o) : Bg L xs 36 0 [(0, .ref 1)] [] LY1 h ([], LY3, o) := by
  obtain ⟨R, hR⟩ : ∃ R : List Value × Lay × Hp, R = ([], LY3, o) := ⟨_, rfl⟩
  rw [← hR]
  refine seg_Bg (pc' := 7) (lv' := [(0, .ref 1)]) (st' := [.int 60, .ref 1]) (lay' := LY1) (h' := h) 4 rfl ?_
  refine put_Bg (pc' := 9) (lv' := [(0, .ref 1)]) (st' := [.ref 2, .ref 1]) (lay' := LY5) (x := hnew h 2) rfl e fun h1 e => ?_
  refine seg_Bg (pc' := 15) (lv' := [(0, .ref 1)]) (st' := [.int 60, .ref 1]) (lay' := LY2) (h' := h1) 3 rfl ?_
  refine put_Bg (pc' := 17) (lv' := [(0, .ref 1)]) (st' := [.ref 3, .ref 1]) (lay' := LY4) (x := hnew h1 3) rfl e fun h2 e => ?_
  refine seg_Bg (pc' := 22) (lv' := [(0, .ref 1)]) (st' := [.int 0, .ref 1]) (lay' := LY3) (h' := h2) 3 rfl ?_
  refine put_Bg (pc' := 25) (lv' := [(0, .ref 1)]) (st' := []) (lay' := LY3) (x := hset h2 1 2 0) rfl e fun h3 e => ?_
  refine seg_Bg (pc' := 27) (lv' := [(0, .ref 1)]) (st' := [.int 0, .ref 1]) (lay' := LY3) (h' := h3) 2 rfl ?_
  refine put_Bg (pc' := 30) (lv' := [(0, .ref 1)]) (st' := []) (lay' := LY3) (x := hset h3 1 3 0) rfl e fun h4 e => ?_
  refine seg_Bg (pc' := 32) (lv' := [(0, .ref 1)]) (st' := [.int 0, .ref 1]) (lay' := LY3) (h' := h4) 2 rfl ?_
  refine put_Bg (pc' := 35) (lv' := [(0, .ref 1)]) (st' := []) (lay' := LY3) (x := hset h4 1 4 0) rfl e fun h5 e => ?_
  rw [hR, ← Option.some.inj e]; exact ret_Bg rfl

set_option maxRecDepth 100000 in
theorem BJco_tells (L : Nat) (xs : Nat → Int32) (v0 : Int32) (v1 : Int32) (lay : Lay) (h : Hp) (o : Int32) (e : Jco_tells v0 v1 = some o) : Bg L xs 3 0 [(0, .int v0), (1, .int v1)] [] lay h ([.int o], lay, h) := by
  obtain ⟨R, hR⟩ : ∃ R : List Value × Lay × Hp, R = ([.int o], lay, h) := ⟨_, rfl⟩
  rw [← hR]
  refine seg_Bg (pc' := 8) (lv' := [(0, .int v0), (1, .int v1)]) (st' := [.int ((v0 >>> ((v1 &&& (7 : Int32)) &&& 31) : Int32) &&& (1 : Int32))]) (lay' := lay) (h' := h) 7 rfl ?_
  rw [hR, ← Option.some.inj e]; exact ret_Bg rfl

set_option maxRecDepth 100000 in
theorem BJco_isWithin (L : Nat) (xs : Nat → Int32) (v0 : Int32) (v1 : Int32) (lay : Lay) (h : Hp) (o : Int32) (e : Jco_isWithin v0 v1 = some o) : Bg L xs 4 0 [(0, .int v0), (1, .int v1)] [] lay h ([.int o], lay, h) := by
  obtain ⟨R, hR⟩ : ∃ R : List Value × Lay × Hp, R = ([.int o], lay, h) := ⟨_, rfl⟩
  rw [← hR]
  refine seg_Bg (pc' := (if (v0 &&& (v1 ^^^ (-1 : Int32))) = 0 then 8 else 12)) (lv' := [(0, .int v0), (1, .int v1)]) (st' := []) (lay' := lay) (h' := h) 6 rfl ?_
  refine pc_ite e (fun e => ?_) (fun e => ?_)
  · refine seg_Bg (pc' := 13) (lv' := [(0, .int v0), (1, .int v1)]) (st' := [.int 1]) (lay' := lay) (h' := h) 2 rfl ?_
    rw [hR, ← Option.some.inj e]; exact ret_Bg rfl
  · refine seg_Bg (pc' := 13) (lv' := [(0, .int v0), (1, .int v1)]) (st' := [.int 0]) (lay' := lay) (h' := h) 1 rfl ?_
    rw [hR, ← Option.some.inj e]; exact ret_Bg rfl

set_option maxRecDepth 100000 in
theorem BJtr_firstFall_L10_s (L : Nat) (xs : Nat → Int32) (v0 v1 : Int32) (lay : Lay) (h : Hp) (R : List Value × Lay × Hp) (v2 : Int32) (o : ((Int32) ⊕ ((Int32) ⊕ (Int32)))) (hH : ∀ s : Int32, o = .inl s → Bg L xs 86 10 [(0, .int v0), (1, .int v1), (2, .int s)] [] lay h R) (hE : ∀ t : Int32, o = .inr (.inl t) → Bg L xs 86 54 [(0, .int v0), (1, .int v1), (2, .int t)] [] lay h R) (hR : ∀ r : Int32, o = .inr (.inr r) → R = ([.int r], lay, h)) (e : Jtr_firstFall_L10 v0 v1 v2 = some o) : Bg L xs 86 10 [(0, .int v0), (1, .int v1), (2, .int v2)] [] lay h R := by
  refine seg_Bg (pc' := (if v2 < 8 then 16 else 54)) (lv' := [(0, .int v0), (1, .int v1), (2, .int v2)]) (st' := []) (lay' := lay) (h' := h) 3 rfl ?_
  refine pc_ite e (fun e => ?_) (fun e => ?_)
  · refine seg_Bg (pc' := 18) (lv' := [(0, .int v0), (1, .int v1), (2, .int v2)]) (st' := [.int v1, .int v0]) (lay' := lay) (h' := h) 2 rfl ?_
    refine call_Bg (a := 3) (la := [(0, .int v0), (1, .int v1)]) (np := 21) (lv' := [(0, .int v0), (1, .int v1), (2, .int v2)]) (rest := []) (res := fun r => ([.int r], lay, h)) rfl e (fun r e => BJco_tells L xs v0 v1 lay h r e) (fun c1 e => ?_)
    show Bg L xs 86 21 [(0, .int v0), (1, .int v1), (2, .int v2)] [.int c1] lay h R
    refine seg_Bg (pc' := (if c1 = 1 then 25 else 54)) (lv' := [(0, .int v0), (1, .int v1), (2, .int v2)]) (st' := []) (lay' := lay) (h' := h) 2 rfl ?_
    refine pc_ite e (fun e => ?_) (fun e => ?_)
    · refine seg_Bg (pc' := 27) (lv' := [(0, .int v0), (1, .int v1), (2, .int v2)]) (st' := [.int v2, .int v1]) (lay' := lay) (h' := h) 2 rfl ?_
      refine call_Bg (a := 4) (la := [(0, .int v1), (1, .int v2)]) (np := 30) (lv' := [(0, .int v0), (1, .int v1), (2, .int v2)]) (rest := []) (res := fun r => ([.int r], lay, h)) rfl e (fun r e => BJco_isWithin L xs v1 v2 lay h r e) (fun c2 e => ?_)
      show Bg L xs 86 30 [(0, .int v0), (1, .int v1), (2, .int v2)] [.int c2] lay h R
      refine seg_Bg (pc' := (if c2 = 0 then 48 else 33)) (lv' := [(0, .int v0), (1, .int v1), (2, .int v2)]) (st' := []) (lay' := lay) (h' := h) 1 rfl ?_
      refine pc_ite e (fun e => ?_) (fun e => ?_)
      · refine seg_Bg (pc' := 10) (lv' := [(0, .int v0), (1, .int v1), (2, .int (v2 + 1))]) (st' := []) (lay' := lay) (h' := h) 2 rfl ?_
        exact hH (v2 + 1) (Option.some.inj e).symm
      · refine seg_Bg (pc' := 35) (lv' := [(0, .int v0), (1, .int v1), (2, .int v2)]) (st' := [.int v2, .int v0]) (lay' := lay) (h' := h) 2 rfl ?_
        refine call_Bg (a := 3) (la := [(0, .int v0), (1, .int v2)]) (np := 38) (lv' := [(0, .int v0), (1, .int v1), (2, .int v2)]) (rest := []) (res := fun r => ([.int r], lay, h)) rfl e (fun r e => BJco_tells L xs v0 v2 lay h r e) (fun c3 e => ?_)
        show Bg L xs 86 38 [(0, .int v0), (1, .int v1), (2, .int v2)] [.int c3] lay h R
        refine seg_Bg (pc' := (if c3 = 0 then 41 else 48)) (lv' := [(0, .int v0), (1, .int v1), (2, .int v2)]) (st' := []) (lay' := lay) (h' := h) 1 rfl ?_
        refine pc_ite e (fun e => ?_) (fun e => ?_)
        · refine seg_Bg (pc' := 47) (lv' := [(0, .int v0), (1, .int v1), (2, .int v2)]) (st' := [.int (((8 : Int32) * v1) + v2)]) (lay' := lay) (h' := h) 5 rfl ?_
          rw [hR (((8 : Int32) * v1) + v2) (Option.some.inj e).symm]; exact ret_Bg rfl
        · refine seg_Bg (pc' := 10) (lv' := [(0, .int v0), (1, .int v1), (2, .int (v2 + 1))]) (st' := []) (lay' := lay) (h' := h) 2 rfl ?_
          exact hH (v2 + 1) (Option.some.inj e).symm
    · exact hE v2 (Option.some.inj e).symm
  · exact hE v2 (Option.some.inj e).symm
theorem BJtr_firstFall_L10 (L : Nat) (xs : Nat → Int32) (v0 v1 : Int32) (lay : Lay) (h : Hp) (R : List Value × Lay × Hp) (C : ((Int32) ⊕ (Int32)) → Prop) (hE : ∀ t : Int32, C (.inl t) → Bg L xs 86 54 [(0, .int v0), (1, .int v1), (2, .int t)] [] lay h R) (hR : ∀ r : Int32, C (.inr r) → R = ([.int r], lay, h)) (n : Nat) (s : Int32) (o : ((Int32) ⊕ (Int32))) (e : loopN n (fun s => Jtr_firstFall_L10 v0 v1 s) s = some o) (hC : C o) : Bg L xs 86 10 [(0, .int v0), (1, .int v1), (2, .int s)] [] lay h R := by
  refine loop_B (fun s => Jtr_firstFall_L10 v0 v1 s) (fun s : Int32 => Bg L xs 86 10 [(0, .int v0), (1, .int v1), (2, .int s)] [] lay h R) C (fun s o e => ?_) n s o e hC
  intro hK
  refine BJtr_firstFall_L10_s L xs v0 v1 lay h R s o (fun s q => by subst q; exact hK) (fun t q => by subst q; exact hE t hK) (fun r q => by subst q; exact hR r hK) e
set_option maxRecDepth 100000 in
theorem BJtr_firstFall_L2_s (L : Nat) (xs : Nat → Int32) (v0 : Int32) (lay : Lay) (h : Hp) (R : List Value × Lay × Hp) (v1 : Int32) (o : ((Int32) ⊕ ((Int32) ⊕ (Int32)))) (hH : ∀ s : Int32, o = .inl s → Bg L xs 86 2 [(0, .int v0), (1, .int s)] [] lay h R) (hE : ∀ t : Int32, o = .inr (.inl t) → Bg L xs 86 60 [(0, .int v0), (1, .int t)] [] lay h R) (hR : ∀ r : Int32, o = .inr (.inr r) → R = ([.int r], lay, h)) (e : Jtr_firstFall_L2 v0 v1 = some o) : Bg L xs 86 2 [(0, .int v0), (1, .int v1)] [] lay h R := by
  refine seg_Bg (pc' := (if v1 < 8 then 8 else 60)) (lv' := [(0, .int v0), (1, .int v1)]) (st' := []) (lay' := lay) (h' := h) 3 rfl ?_
  refine pc_ite e (fun e => ?_) (fun e => ?_)
  · refine seg_Bg (pc' := 10) (lv' := [(0, .int v0), (1, .int v1), (2, .int v1)]) (st' := []) (lay' := lay) (h' := h) 2 rfl ?_
    obtain ⟨t4o, et4o, e⟩ := bd_s e
    refine BJtr_firstFall_L10 L xs v0 v1 lay h R (fun (t4x : (Int32) ⊕ (Int32)) => (sm t4x (fun t4 => some (.inl (v1 + 1))) (fun r4 => some (.inr (.inr r4)))) = some o) (fun t4 e => ?_) (fun r4 e => ?_) 1000000 v1 _ et4o e
    · refine seg_Bg (pc' := 2) (lv' := [(0, .int v0), (1, .int (v1 + 1)), (2, .int t4)]) (st' := []) (lay' := lay) (h' := h) 2 rfl ?_
      refine kp_Bg (lv' := [(0, .int v0), (1, .int (v1 + 1))]) rfl rfl ?_
      exact hH (v1 + 1) (Option.some.inj e).symm
    · exact hR r4 (Option.some.inj e).symm
  · exact hE v1 (Option.some.inj e).symm
theorem BJtr_firstFall_L2 (L : Nat) (xs : Nat → Int32) (v0 : Int32) (lay : Lay) (h : Hp) (R : List Value × Lay × Hp) (C : ((Int32) ⊕ (Int32)) → Prop) (hE : ∀ t : Int32, C (.inl t) → Bg L xs 86 60 [(0, .int v0), (1, .int t)] [] lay h R) (hR : ∀ r : Int32, C (.inr r) → R = ([.int r], lay, h)) (n : Nat) (s : Int32) (o : ((Int32) ⊕ (Int32))) (e : loopN n (fun s => Jtr_firstFall_L2 v0 s) s = some o) (hC : C o) : Bg L xs 86 2 [(0, .int v0), (1, .int s)] [] lay h R := by
  refine loop_B (fun s => Jtr_firstFall_L2 v0 s) (fun s : Int32 => Bg L xs 86 2 [(0, .int v0), (1, .int s)] [] lay h R) C (fun s o e => ?_) n s o e hC
  intro hK
  refine BJtr_firstFall_L2_s L xs v0 lay h R s o (fun s q => by subst q; exact hK) (fun t q => by subst q; exact hE t hK) (fun r q => by subst q; exact hR r hK) e
set_option maxRecDepth 100000 in
theorem BJtr_firstFall (L : Nat) (xs : Nat → Int32) (v0 : Int32) (lay : Lay) (h : Hp) (o : Int32) (e : Jtr_firstFall v0 = some o) : Bg L xs 86 0 [(0, .int v0)] [] lay h ([.int o], lay, h) := by
  obtain ⟨R, hR⟩ : ∃ R : List Value × Lay × Hp, R = ([.int o], lay, h) := ⟨_, rfl⟩
  rw [← hR]
  refine seg_Bg (pc' := 2) (lv' := [(0, .int v0), (1, .int 0)]) (st' := []) (lay' := lay) (h' := h) 2 rfl ?_
  obtain ⟨t5o, et5o, e⟩ := bd_s e
  refine BJtr_firstFall_L2 L xs v0 lay h R (fun (t5x : (Int32) ⊕ (Int32)) => (sm t5x (fun t5 => some (-1)) (fun r5 => some r5)) = some o) (fun t5 e => ?_) (fun r5 e => ?_) 1000000 0 _ et5o e
  · refine seg_Bg (pc' := 61) (lv' := [(0, .int v0), (1, .int t5)]) (st' := [.int (-1)]) (lay' := lay) (h' := h) 1 rfl ?_
    rw [hR, ← Option.some.inj e]; exact ret_Bg rfl
  · rw [hR]; exact congrArg (fun r => (([.int r], lay, h) : List Value × Lay × Hp)) (Option.some.inj e).symm

set_option maxRecDepth 100000 in
theorem BJtr_firstLikeness_L2_s (L : Nat) (xs : Nat → Int32) (v0 : Int32) (lay : Lay) (h : Hp) (R : List Value × Lay × Hp) (v1 : Int32) (o : ((Int32) ⊕ ((Int32) ⊕ (Int32)))) (hH : ∀ s : Int32, o = .inl s → Bg L xs 87 2 [(0, .int v0), (1, .int s)] [] lay h R) (hE : ∀ t : Int32, o = .inr (.inl t) → Bg L xs 87 32 [(0, .int v0), (1, .int t)] [] lay h R) (hR : ∀ r : Int32, o = .inr (.inr r) → R = ([.int r], lay, h)) (e : Jtr_firstLikeness_L2 v0 v1 = some o) : Bg L xs 87 2 [(0, .int v0), (1, .int v1)] [] lay h R := by
  refine seg_Bg (pc' := (if v1 < 8 then 8 else 32)) (lv' := [(0, .int v0), (1, .int v1)]) (st' := []) (lay' := lay) (h' := h) 3 rfl ?_
  refine pc_ite e (fun e => ?_) (fun e => ?_)
  · refine seg_Bg (pc' := 10) (lv' := [(0, .int v0), (1, .int v1)]) (st' := [.int v1, .int v0]) (lay' := lay) (h' := h) 2 rfl ?_
    refine call_Bg (a := 3) (la := [(0, .int v0), (1, .int v1)]) (np := 13) (lv' := [(0, .int v0), (1, .int v1)]) (rest := []) (res := fun r => ([.int r], lay, h)) rfl e (fun r e => BJco_tells L xs v0 v1 lay h r e) (fun c1 e => ?_)
    show Bg L xs 87 13 [(0, .int v0), (1, .int v1)] [.int c1] lay h R
    refine seg_Bg (pc' := 18) (lv' := [(0, .int v0), (1, .int v1)]) (st' := [.int ((7 : Int32) - v1), .int v0, .int c1]) (lay' := lay) (h' := h) 4 rfl ?_
    refine call_Bg (a := 3) (la := [(0, .int v0), (1, .int ((7 : Int32) - v1))]) (np := 21) (lv' := [(0, .int v0), (1, .int v1)]) (rest := [.int c1]) (res := fun r => ([.int r], lay, h)) rfl e (fun r e => BJco_tells L xs v0 ((7 : Int32) - v1) lay h r e) (fun c2 e => ?_)
    show Bg L xs 87 21 [(0, .int v0), (1, .int v1)] [.int c2, .int c1] lay h R
    refine seg_Bg (pc' := (if c1 = c2 then 24 else 26)) (lv' := [(0, .int v0), (1, .int v1)]) (st' := []) (lay' := lay) (h' := h) 1 rfl ?_
    refine pc_ite e (fun e => ?_) (fun e => ?_)
    · refine seg_Bg (pc' := 25) (lv' := [(0, .int v0), (1, .int v1)]) (st' := [.int v1]) (lay' := lay) (h' := h) 1 rfl ?_
      rw [hR v1 (Option.some.inj e).symm]; exact ret_Bg rfl
    · refine seg_Bg (pc' := 2) (lv' := [(0, .int v0), (1, .int (v1 + 1))]) (st' := []) (lay' := lay) (h' := h) 2 rfl ?_
      exact hH (v1 + 1) (Option.some.inj e).symm
  · exact hE v1 (Option.some.inj e).symm
theorem BJtr_firstLikeness_L2 (L : Nat) (xs : Nat → Int32) (v0 : Int32) (lay : Lay) (h : Hp) (R : List Value × Lay × Hp) (C : ((Int32) ⊕ (Int32)) → Prop) (hE : ∀ t : Int32, C (.inl t) → Bg L xs 87 32 [(0, .int v0), (1, .int t)] [] lay h R) (hR : ∀ r : Int32, C (.inr r) → R = ([.int r], lay, h)) (n : Nat) (s : Int32) (o : ((Int32) ⊕ (Int32))) (e : loopN n (fun s => Jtr_firstLikeness_L2 v0 s) s = some o) (hC : C o) : Bg L xs 87 2 [(0, .int v0), (1, .int s)] [] lay h R := by
  refine loop_B (fun s => Jtr_firstLikeness_L2 v0 s) (fun s : Int32 => Bg L xs 87 2 [(0, .int v0), (1, .int s)] [] lay h R) C (fun s o e => ?_) n s o e hC
  intro hK
  refine BJtr_firstLikeness_L2_s L xs v0 lay h R s o (fun s q => by subst q; exact hK) (fun t q => by subst q; exact hE t hK) (fun r q => by subst q; exact hR r hK) e
set_option maxRecDepth 100000 in
theorem BJtr_firstLikeness (L : Nat) (xs : Nat → Int32) (v0 : Int32) (lay : Lay) (h : Hp) (o : Int32) (e : Jtr_firstLikeness v0 = some o) : Bg L xs 87 0 [(0, .int v0)] [] lay h ([.int o], lay, h) := by
  obtain ⟨R, hR⟩ : ∃ R : List Value × Lay × Hp, R = ([.int o], lay, h) := ⟨_, rfl⟩
  rw [← hR]
  refine seg_Bg (pc' := 2) (lv' := [(0, .int v0), (1, .int 0)]) (st' := []) (lay' := lay) (h' := h) 2 rfl ?_
  obtain ⟨t3o, et3o, e⟩ := bd_s e
  refine BJtr_firstLikeness_L2 L xs v0 lay h R (fun (t3x : (Int32) ⊕ (Int32)) => (sm t3x (fun t3 => some (-1)) (fun r3 => some r3)) = some o) (fun t3 e => ?_) (fun r3 e => ?_) 1000000 0 _ et3o e
  · refine seg_Bg (pc' := 33) (lv' := [(0, .int v0), (1, .int t3)]) (st' := [.int (-1)]) (lay' := lay) (h' := h) 1 rfl ?_
    rw [hR, ← Option.some.inj e]; exact ret_Bg rfl
  · rw [hR]; exact congrArg (fun r => (([.int r], lay, h) : List Value × Lay × Hp)) (Option.some.inj e).symm

set_option maxRecDepth 100000 in
theorem BJco_sumOf_L15_s (L : Nat) (xs : Nat → Int32) (v0 v1 v2 : Int32) (lay : Lay) (h : Hp) (R : List Value × Lay × Hp) (v3 v4 : Int32) (o : ((Int32 × Int32) ⊕ (Int32 × Int32))) (hH : ∀ s : Int32 × Int32, o = .inl s → Bg L xs 12 15 [(0, .int v0), (1, .int v1), (2, .int v2), (3, .int s.1), (4, .int s.2)] [] lay h R) (hE : ∀ t : Int32 × Int32, o = .inr t → Bg L xs 12 45 [(0, .int v0), (1, .int v1), (2, .int v2), (3, .int t.1), (4, .int t.2)] [] lay h R) (e : Jco_sumOf_L15 v0 v1 v2 v3 v4 = some o) : Bg L xs 12 15 [(0, .int v0), (1, .int v1), (2, .int v2), (3, .int v3), (4, .int v4)] [] lay h R := by
  refine seg_Bg (pc' := (if v2 < v4 then 45 else 21)) (lv' := [(0, .int v0), (1, .int v1), (2, .int v2), (3, .int v3), (4, .int v4)]) (st' := []) (lay' := lay) (h' := h) 3 rfl ?_
  refine pc_ite e (fun e => ?_) (fun e => ?_)
  · exact hE (v3, v4) (Option.some.inj e).symm
  · refine seg_Bg (pc' := 24) (lv' := [(0, .int v0), (1, .int v1), (2, .int v2), (3, .int v3), (4, .int v4)]) (st' := [.int v2, .int v4]) (lay' := lay) (h' := h) 2 rfl ?_
    refine call_Bg (a := 4) (la := [(0, .int v4), (1, .int v2)]) (np := 27) (lv' := [(0, .int v0), (1, .int v1), (2, .int v2), (3, .int v3), (4, .int v4)]) (rest := []) (res := fun r => ([.int r], lay, h)) rfl e (fun r e => BJco_isWithin L xs v4 v2 lay h r e) (fun c1 e => ?_)
    show Bg L xs 12 27 [(0, .int v0), (1, .int v1), (2, .int v2), (3, .int v3), (4, .int v4)] [.int c1] lay h R
    refine seg_Bg (pc' := (if c1 = 0 then 39 else 30)) (lv' := [(0, .int v0), (1, .int v1), (2, .int v2), (3, .int v3), (4, .int v4)]) (st' := []) (lay' := lay) (h' := h) 1 rfl ?_
    refine pc_ite e (fun e => ?_) (fun e => ?_)
    · refine seg_Bg (pc' := 15) (lv' := [(0, .int v0), (1, .int v1), (2, .int v2), (3, .int v3), (4, .int (v4 + 1))]) (st' := []) (lay' := lay) (h' := h) 2 rfl ?_
      exact hH (v3, v4 + 1) (Option.some.inj e).symm
    · refine seg_Bg (pc' := 34) (lv' := [(0, .int v0), (1, .int v1), (2, .int v2), (3, .int v3), (4, .int v4)]) (st' := [.int v4, .int v0, .int v3]) (lay' := lay) (h' := h) 3 rfl ?_
      refine call_Bg (a := 3) (la := [(0, .int v0), (1, .int v4)]) (np := 37) (lv' := [(0, .int v0), (1, .int v1), (2, .int v2), (3, .int v3), (4, .int v4)]) (rest := [.int v3]) (res := fun r => ([.int r], lay, h)) rfl e (fun r e => BJco_tells L xs v0 v4 lay h r e) (fun c2 e => ?_)
      show Bg L xs 12 37 [(0, .int v0), (1, .int v1), (2, .int v2), (3, .int v3), (4, .int v4)] [.int c2, .int v3] lay h R
      refine seg_Bg (pc' := 15) (lv' := [(0, .int v0), (1, .int v1), (2, .int v2), (3, .int (v3 ^^^ c2)), (4, .int (v4 + 1))]) (st' := []) (lay' := lay) (h' := h) 4 rfl ?_
      exact hH (v3 ^^^ c2, v4 + 1) (Option.some.inj e).symm
theorem BJco_sumOf_L15 (L : Nat) (xs : Nat → Int32) (v0 v1 v2 : Int32) (lay : Lay) (h : Hp) (R : List Value × Lay × Hp) (C : (Int32 × Int32) → Prop) (hE : ∀ t : Int32 × Int32, C t → Bg L xs 12 45 [(0, .int v0), (1, .int v1), (2, .int v2), (3, .int t.1), (4, .int t.2)] [] lay h R) (n : Nat) (s : Int32 × Int32) (o : (Int32 × Int32)) (e : loopN n (fun s => Jco_sumOf_L15 v0 v1 v2 s.1 s.2) s = some o) (hC : C o) : Bg L xs 12 15 [(0, .int v0), (1, .int v1), (2, .int v2), (3, .int s.1), (4, .int s.2)] [] lay h R := by
  refine loop_B (fun s => Jco_sumOf_L15 v0 v1 v2 s.1 s.2) (fun s : Int32 × Int32 => Bg L xs 12 15 [(0, .int v0), (1, .int v1), (2, .int v2), (3, .int s.1), (4, .int s.2)] [] lay h R) C (fun s o e => ?_) n s o e hC
  intro hK
  refine BJco_sumOf_L15_s L xs v0 v1 v2 lay h R s.1 s.2 o (fun s q => by subst q; exact hK) (fun t q => by subst q; exact hE t hK) e
set_option maxRecDepth 100000 in
theorem BJco_sumOf_L4_s (L : Nat) (xs : Nat → Int32) (v0 : Int32) (lay : Lay) (h : Hp) (R : List Value × Lay × Hp) (v1 v2 : Int32) (o : ((Int32 × Int32) ⊕ (Int32 × Int32))) (hH : ∀ s : Int32 × Int32, o = .inl s → Bg L xs 12 4 [(0, .int v0), (1, .int s.1), (2, .int s.2)] [] lay h R) (hE : ∀ t : Int32 × Int32, o = .inr t → Bg L xs 12 57 [(0, .int v0), (1, .int t.1), (2, .int t.2)] [] lay h R) (e : Jco_sumOf_L4 v0 v1 v2 = some o) : Bg L xs 12 4 [(0, .int v0), (1, .int v1), (2, .int v2)] [] lay h R := by
  refine seg_Bg (pc' := (if v2 < 8 then 10 else 57)) (lv' := [(0, .int v0), (1, .int v1), (2, .int v2)]) (st' := []) (lay' := lay) (h' := h) 3 rfl ?_
  refine pc_ite e (fun e => ?_) (fun e => ?_)
  · refine seg_Bg (pc' := 15) (lv' := [(0, .int v0), (1, .int v1), (2, .int v2), (3, .int 0), (4, .int 0)]) (st' := []) (lay' := lay) (h' := h) 4 rfl ?_
    obtain ⟨t3o, et3o, e⟩ := bd_s e
    refine BJco_sumOf_L15 L xs v0 v1 v2 lay h R (fun (t3 : Int32 × Int32) => (some (.inl (v1 ||| (t3.1 <<< (v2 &&& 31) : Int32), v2 + 1))) = some o) (fun t3 e => ?_) 1000000 (0, 0) _ et3o e
    refine seg_Bg (pc' := 4) (lv' := [(0, .int v0), (1, .int (v1 ||| (t3.1 <<< (v2 &&& 31) : Int32))), (2, .int (v2 + 1)), (3, .int t3.1), (4, .int t3.2)]) (st' := []) (lay' := lay) (h' := h) 8 rfl ?_
    refine kp_Bg (lv' := [(0, .int v0), (1, .int (v1 ||| (t3.1 <<< (v2 &&& 31) : Int32))), (2, .int (v2 + 1))]) rfl rfl ?_
    exact hH (v1 ||| (t3.1 <<< (v2 &&& 31) : Int32), v2 + 1) (Option.some.inj e).symm
  · exact hE (v1, v2) (Option.some.inj e).symm
theorem BJco_sumOf_L4 (L : Nat) (xs : Nat → Int32) (v0 : Int32) (lay : Lay) (h : Hp) (R : List Value × Lay × Hp) (C : (Int32 × Int32) → Prop) (hE : ∀ t : Int32 × Int32, C t → Bg L xs 12 57 [(0, .int v0), (1, .int t.1), (2, .int t.2)] [] lay h R) (n : Nat) (s : Int32 × Int32) (o : (Int32 × Int32)) (e : loopN n (fun s => Jco_sumOf_L4 v0 s.1 s.2) s = some o) (hC : C o) : Bg L xs 12 4 [(0, .int v0), (1, .int s.1), (2, .int s.2)] [] lay h R := by
  refine loop_B (fun s => Jco_sumOf_L4 v0 s.1 s.2) (fun s : Int32 × Int32 => Bg L xs 12 4 [(0, .int v0), (1, .int s.1), (2, .int s.2)] [] lay h R) C (fun s o e => ?_) n s o e hC
  intro hK
  refine BJco_sumOf_L4_s L xs v0 lay h R s.1 s.2 o (fun s q => by subst q; exact hK) (fun t q => by subst q; exact hE t hK) e
set_option maxRecDepth 100000 in
theorem BJco_sumOf (L : Nat) (xs : Nat → Int32) (v0 : Int32) (lay : Lay) (h : Hp) (o : Int32) (e : Jco_sumOf v0 = some o) : Bg L xs 12 0 [(0, .int v0)] [] lay h ([.int o], lay, h) := by
  obtain ⟨R, hR⟩ : ∃ R : List Value × Lay × Hp, R = ([.int o], lay, h) := ⟨_, rfl⟩
  rw [← hR]
  refine seg_Bg (pc' := 4) (lv' := [(0, .int v0), (1, .int 0), (2, .int 0)]) (st' := []) (lay' := lay) (h' := h) 4 rfl ?_
  obtain ⟨t4o, et4o, e⟩ := bd_s e
  refine BJco_sumOf_L4 L xs v0 lay h R (fun (t4 : Int32 × Int32) => (some t4.1) = some o) (fun t4 e => ?_) 1000000 (0, 0) _ et4o e
  refine seg_Bg (pc' := 58) (lv' := [(0, .int v0), (1, .int t4.1), (2, .int t4.2)]) (st' := [.int t4.1]) (lay' := lay) (h' := h) 1 rfl ?_
  rw [hR, ← Option.some.inj e]; exact ret_Bg rfl

set_option maxRecDepth 100000 in
theorem BJtr_firstProduct_L10_s (L : Nat) (xs : Nat → Int32) (v0 v1 : Int32) (lay : Lay) (h : Hp) (R : List Value × Lay × Hp) (v2 : Int32) (o : ((Int32) ⊕ ((Int32) ⊕ (Int32)))) (hH : ∀ s : Int32, o = .inl s → Bg L xs 88 10 [(0, .int v0), (1, .int v1), (2, .int s)] [] lay h R) (hE : ∀ t : Int32, o = .inr (.inl t) → Bg L xs 88 32 [(0, .int v0), (1, .int v1), (2, .int t)] [] lay h R) (hR : ∀ r : Int32, o = .inr (.inr r) → R = ([.int r], lay, h)) (e : Jtr_firstProduct_L10 v0 v1 v2 = some o) : Bg L xs 88 10 [(0, .int v0), (1, .int v1), (2, .int v2)] [] lay h R := by
  refine seg_Bg (pc' := (if v2 < 8 then 16 else 32)) (lv' := [(0, .int v0), (1, .int v1), (2, .int v2)]) (st' := []) (lay' := lay) (h' := h) 3 rfl ?_
  refine pc_ite e (fun e => ?_) (fun e => ?_)
  · refine seg_Bg (pc' := (if ((v1 >>> (v2 &&& 31) : Int32) &&& (1 : Int32)) = 0 then 26 else 24)) (lv' := [(0, .int v0), (1, .int v1), (2, .int v2)]) (st' := []) (lay' := lay) (h' := h) 6 rfl ?_
    refine pc_ite e (fun e => ?_) (fun e => ?_)
    · refine seg_Bg (pc' := 10) (lv' := [(0, .int v0), (1, .int v1), (2, .int (v2 + 1))]) (st' := []) (lay' := lay) (h' := h) 2 rfl ?_
      exact hH (v2 + 1) (Option.some.inj e).symm
    · refine seg_Bg (pc' := 25) (lv' := [(0, .int v0), (1, .int v1), (2, .int v2)]) (st' := [.int v2]) (lay' := lay) (h' := h) 1 rfl ?_
      rw [hR v2 (Option.some.inj e).symm]; exact ret_Bg rfl
  · exact hE v2 (Option.some.inj e).symm
theorem BJtr_firstProduct_L10 (L : Nat) (xs : Nat → Int32) (v0 v1 : Int32) (lay : Lay) (h : Hp) (R : List Value × Lay × Hp) (C : ((Int32) ⊕ (Int32)) → Prop) (hE : ∀ t : Int32, C (.inl t) → Bg L xs 88 32 [(0, .int v0), (1, .int v1), (2, .int t)] [] lay h R) (hR : ∀ r : Int32, C (.inr r) → R = ([.int r], lay, h)) (n : Nat) (s : Int32) (o : ((Int32) ⊕ (Int32))) (e : loopN n (fun s => Jtr_firstProduct_L10 v0 v1 s) s = some o) (hC : C o) : Bg L xs 88 10 [(0, .int v0), (1, .int v1), (2, .int s)] [] lay h R := by
  refine loop_B (fun s => Jtr_firstProduct_L10 v0 v1 s) (fun s : Int32 => Bg L xs 88 10 [(0, .int v0), (1, .int v1), (2, .int s)] [] lay h R) C (fun s o e => ?_) n s o e hC
  intro hK
  refine BJtr_firstProduct_L10_s L xs v0 v1 lay h R s o (fun s q => by subst q; exact hK) (fun t q => by subst q; exact hE t hK) (fun r q => by subst q; exact hR r hK) e
set_option maxRecDepth 100000 in
theorem BJtr_firstProduct (L : Nat) (xs : Nat → Int32) (v0 : Int32) (lay : Lay) (h : Hp) (o : Int32) (e : Jtr_firstProduct v0 = some o) : Bg L xs 88 0 [(0, .int v0)] [] lay h ([.int o], lay, h) := by
  obtain ⟨R, hR⟩ : ∃ R : List Value × Lay × Hp, R = ([.int o], lay, h) := ⟨_, rfl⟩
  rw [← hR]
  refine seg_Bg (pc' := 1) (lv' := [(0, .int v0)]) (st' := [.int v0]) (lay' := lay) (h' := h) 1 rfl ?_
  refine call_Bg (a := 12) (la := [(0, .int v0)]) (np := 4) (lv' := [(0, .int v0)]) (rest := []) (res := fun r => ([.int r], lay, h)) rfl e (fun r e => BJco_sumOf L xs v0 lay h r e) (fun c1 e => ?_)
  show Bg L xs 88 4 [(0, .int v0)] [.int c1] lay h R
  refine seg_Bg (pc' := 10) (lv' := [(0, .int v0), (1, .int (c1 &&& (-24 : Int32))), (2, .int 0)]) (st' := []) (lay' := lay) (h' := h) 5 rfl ?_
  obtain ⟨t2o, et2o, e⟩ := bd_s e
  refine BJtr_firstProduct_L10 L xs v0 (c1 &&& (-24 : Int32)) lay h R (fun (t2x : (Int32) ⊕ (Int32)) => (sm t2x (fun t2 => some (-1)) (fun r2 => some r2)) = some o) (fun t2 e => ?_) (fun r2 e => ?_) 1000000 0 _ et2o e
  · refine seg_Bg (pc' := 33) (lv' := [(0, .int v0), (1, .int (c1 &&& (-24 : Int32))), (2, .int t2)]) (st' := [.int (-1)]) (lay' := lay) (h' := h) 1 rfl ?_
    rw [hR, ← Option.some.inj e]; exact ret_Bg rfl
  · rw [hR]; exact congrArg (fun r => (([.int r], lay, h) : List Value × Lay × Hp)) (Option.some.inj e).symm

set_option maxRecDepth 100000 in
theorem BJtr_firstUnlikeBoth_L10_s (L : Nat) (xs : Nat → Int32) (v0 v1 : Int32) (lay : Lay) (h : Hp) (R : List Value × Lay × Hp) (v2 : Int32) (o : ((Int32) ⊕ ((Int32) ⊕ (Int32)))) (hH : ∀ s : Int32, o = .inl s → Bg L xs 89 10 [(0, .int v0), (1, .int v1), (2, .int s)] [] lay h R) (hE : ∀ t : Int32, o = .inr (.inl t) → Bg L xs 89 50 [(0, .int v0), (1, .int v1), (2, .int t)] [] lay h R) (hR : ∀ r : Int32, o = .inr (.inr r) → R = ([.int r], lay, h)) (e : Jtr_firstUnlikeBoth_L10 v0 v1 v2 = some o) : Bg L xs 89 10 [(0, .int v0), (1, .int v1), (2, .int v2)] [] lay h R := by
  refine seg_Bg (pc' := (if v2 < 8 then 16 else 50)) (lv' := [(0, .int v0), (1, .int v1), (2, .int v2)]) (st' := []) (lay' := lay) (h' := h) 3 rfl ?_
  refine pc_ite e (fun e => ?_) (fun e => ?_)
  · refine seg_Bg (pc' := 20) (lv' := [(0, .int v0), (1, .int v1), (2, .int v2)]) (st' := [.int (v1 &&& v2), .int v0]) (lay' := lay) (h' := h) 4 rfl ?_
    refine call_Bg (a := 3) (la := [(0, .int v0), (1, .int (v1 &&& v2))]) (np := 23) (lv' := [(0, .int v0), (1, .int v1), (2, .int v2)]) (rest := []) (res := fun r => ([.int r], lay, h)) rfl e (fun r e => BJco_tells L xs v0 (v1 &&& v2) lay h r e) (fun c1 e => ?_)
    show Bg L xs 89 23 [(0, .int v0), (1, .int v1), (2, .int v2)] [.int c1] lay h R
    refine seg_Bg (pc' := 25) (lv' := [(0, .int v0), (1, .int v1), (2, .int v2)]) (st' := [.int v1, .int v0, .int c1]) (lay' := lay) (h' := h) 2 rfl ?_
    refine call_Bg (a := 3) (la := [(0, .int v0), (1, .int v1)]) (np := 28) (lv' := [(0, .int v0), (1, .int v1), (2, .int v2)]) (rest := [.int c1]) (res := fun r => ([.int r], lay, h)) rfl e (fun r e => BJco_tells L xs v0 v1 lay h r e) (fun c2 e => ?_)
    show Bg L xs 89 28 [(0, .int v0), (1, .int v1), (2, .int v2)] [.int c2, .int c1] lay h R
    refine seg_Bg (pc' := 30) (lv' := [(0, .int v0), (1, .int v1), (2, .int v2)]) (st' := [.int v2, .int v0, .int c2, .int c1]) (lay' := lay) (h' := h) 2 rfl ?_
    refine call_Bg (a := 3) (la := [(0, .int v0), (1, .int v2)]) (np := 33) (lv' := [(0, .int v0), (1, .int v1), (2, .int v2)]) (rest := [.int c2, .int c1]) (res := fun r => ([.int r], lay, h)) rfl e (fun r e => BJco_tells L xs v0 v2 lay h r e) (fun c3 e => ?_)
    show Bg L xs 89 33 [(0, .int v0), (1, .int v1), (2, .int v2)] [.int c3, .int c2, .int c1] lay h R
    refine seg_Bg (pc' := (if c1 = (c2 &&& c3) then 44 else 37)) (lv' := [(0, .int v0), (1, .int v1), (2, .int v2)]) (st' := []) (lay' := lay) (h' := h) 2 rfl ?_
    refine pc_ite e (fun e => ?_) (fun e => ?_)
    · refine seg_Bg (pc' := 10) (lv' := [(0, .int v0), (1, .int v1), (2, .int (v2 + 1))]) (st' := []) (lay' := lay) (h' := h) 2 rfl ?_
      exact hH (v2 + 1) (Option.some.inj e).symm
    · refine seg_Bg (pc' := 43) (lv' := [(0, .int v0), (1, .int v1), (2, .int v2)]) (st' := [.int (((8 : Int32) * v1) + v2)]) (lay' := lay) (h' := h) 5 rfl ?_
      rw [hR (((8 : Int32) * v1) + v2) (Option.some.inj e).symm]; exact ret_Bg rfl
  · exact hE v2 (Option.some.inj e).symm
theorem BJtr_firstUnlikeBoth_L10 (L : Nat) (xs : Nat → Int32) (v0 v1 : Int32) (lay : Lay) (h : Hp) (R : List Value × Lay × Hp) (C : ((Int32) ⊕ (Int32)) → Prop) (hE : ∀ t : Int32, C (.inl t) → Bg L xs 89 50 [(0, .int v0), (1, .int v1), (2, .int t)] [] lay h R) (hR : ∀ r : Int32, C (.inr r) → R = ([.int r], lay, h)) (n : Nat) (s : Int32) (o : ((Int32) ⊕ (Int32))) (e : loopN n (fun s => Jtr_firstUnlikeBoth_L10 v0 v1 s) s = some o) (hC : C o) : Bg L xs 89 10 [(0, .int v0), (1, .int v1), (2, .int s)] [] lay h R := by
  refine loop_B (fun s => Jtr_firstUnlikeBoth_L10 v0 v1 s) (fun s : Int32 => Bg L xs 89 10 [(0, .int v0), (1, .int v1), (2, .int s)] [] lay h R) C (fun s o e => ?_) n s o e hC
  intro hK
  refine BJtr_firstUnlikeBoth_L10_s L xs v0 v1 lay h R s o (fun s q => by subst q; exact hK) (fun t q => by subst q; exact hE t hK) (fun r q => by subst q; exact hR r hK) e
set_option maxRecDepth 100000 in
theorem BJtr_firstUnlikeBoth_L2_s (L : Nat) (xs : Nat → Int32) (v0 : Int32) (lay : Lay) (h : Hp) (R : List Value × Lay × Hp) (v1 : Int32) (o : ((Int32) ⊕ ((Int32) ⊕ (Int32)))) (hH : ∀ s : Int32, o = .inl s → Bg L xs 89 2 [(0, .int v0), (1, .int s)] [] lay h R) (hE : ∀ t : Int32, o = .inr (.inl t) → Bg L xs 89 56 [(0, .int v0), (1, .int t)] [] lay h R) (hR : ∀ r : Int32, o = .inr (.inr r) → R = ([.int r], lay, h)) (e : Jtr_firstUnlikeBoth_L2 v0 v1 = some o) : Bg L xs 89 2 [(0, .int v0), (1, .int v1)] [] lay h R := by
  refine seg_Bg (pc' := (if v1 < 8 then 8 else 56)) (lv' := [(0, .int v0), (1, .int v1)]) (st' := []) (lay' := lay) (h' := h) 3 rfl ?_
  refine pc_ite e (fun e => ?_) (fun e => ?_)
  · refine seg_Bg (pc' := 10) (lv' := [(0, .int v0), (1, .int v1), (2, .int 0)]) (st' := []) (lay' := lay) (h' := h) 2 rfl ?_
    obtain ⟨t4o, et4o, e⟩ := bd_s e
    refine BJtr_firstUnlikeBoth_L10 L xs v0 v1 lay h R (fun (t4x : (Int32) ⊕ (Int32)) => (sm t4x (fun t4 => some (.inl (v1 + 1))) (fun r4 => some (.inr (.inr r4)))) = some o) (fun t4 e => ?_) (fun r4 e => ?_) 1000000 0 _ et4o e
    · refine seg_Bg (pc' := 2) (lv' := [(0, .int v0), (1, .int (v1 + 1)), (2, .int t4)]) (st' := []) (lay' := lay) (h' := h) 2 rfl ?_
      refine kp_Bg (lv' := [(0, .int v0), (1, .int (v1 + 1))]) rfl rfl ?_
      exact hH (v1 + 1) (Option.some.inj e).symm
    · exact hR r4 (Option.some.inj e).symm
  · exact hE v1 (Option.some.inj e).symm
theorem BJtr_firstUnlikeBoth_L2 (L : Nat) (xs : Nat → Int32) (v0 : Int32) (lay : Lay) (h : Hp) (R : List Value × Lay × Hp) (C : ((Int32) ⊕ (Int32)) → Prop) (hE : ∀ t : Int32, C (.inl t) → Bg L xs 89 56 [(0, .int v0), (1, .int t)] [] lay h R) (hR : ∀ r : Int32, C (.inr r) → R = ([.int r], lay, h)) (n : Nat) (s : Int32) (o : ((Int32) ⊕ (Int32))) (e : loopN n (fun s => Jtr_firstUnlikeBoth_L2 v0 s) s = some o) (hC : C o) : Bg L xs 89 2 [(0, .int v0), (1, .int s)] [] lay h R := by
  refine loop_B (fun s => Jtr_firstUnlikeBoth_L2 v0 s) (fun s : Int32 => Bg L xs 89 2 [(0, .int v0), (1, .int s)] [] lay h R) C (fun s o e => ?_) n s o e hC
  intro hK
  refine BJtr_firstUnlikeBoth_L2_s L xs v0 lay h R s o (fun s q => by subst q; exact hK) (fun t q => by subst q; exact hE t hK) (fun r q => by subst q; exact hR r hK) e
set_option maxRecDepth 100000 in
theorem BJtr_firstUnlikeBoth (L : Nat) (xs : Nat → Int32) (v0 : Int32) (lay : Lay) (h : Hp) (o : Int32) (e : Jtr_firstUnlikeBoth v0 = some o) : Bg L xs 89 0 [(0, .int v0)] [] lay h ([.int o], lay, h) := by
  obtain ⟨R, hR⟩ : ∃ R : List Value × Lay × Hp, R = ([.int o], lay, h) := ⟨_, rfl⟩
  rw [← hR]
  refine seg_Bg (pc' := 2) (lv' := [(0, .int v0), (1, .int 0)]) (st' := []) (lay' := lay) (h' := h) 2 rfl ?_
  obtain ⟨t5o, et5o, e⟩ := bd_s e
  refine BJtr_firstUnlikeBoth_L2 L xs v0 lay h R (fun (t5x : (Int32) ⊕ (Int32)) => (sm t5x (fun t5 => some (-1)) (fun r5 => some r5)) = some o) (fun t5 e => ?_) (fun r5 e => ?_) 1000000 0 _ et5o e
  · refine seg_Bg (pc' := 57) (lv' := [(0, .int v0), (1, .int t5)]) (st' := [.int (-1)]) (lay' := lay) (h' := h) 1 rfl ?_
    rw [hR, ← Option.some.inj e]; exact ret_Bg rfl
  · rw [hR]; exact congrArg (fun r => (([.int r], lay, h) : List Value × Lay × Hp)) (Option.some.inj e).symm

set_option maxRecDepth 100000 in
theorem BJtr_firstUnlikeEither_L10_s (L : Nat) (xs : Nat → Int32) (v0 v1 : Int32) (lay : Lay) (h : Hp) (R : List Value × Lay × Hp) (v2 : Int32) (o : ((Int32) ⊕ ((Int32) ⊕ (Int32)))) (hH : ∀ s : Int32, o = .inl s → Bg L xs 90 10 [(0, .int v0), (1, .int v1), (2, .int s)] [] lay h R) (hE : ∀ t : Int32, o = .inr (.inl t) → Bg L xs 90 50 [(0, .int v0), (1, .int v1), (2, .int t)] [] lay h R) (hR : ∀ r : Int32, o = .inr (.inr r) → R = ([.int r], lay, h)) (e : Jtr_firstUnlikeEither_L10 v0 v1 v2 = some o) : Bg L xs 90 10 [(0, .int v0), (1, .int v1), (2, .int v2)] [] lay h R := by
  refine seg_Bg (pc' := (if v2 < 8 then 16 else 50)) (lv' := [(0, .int v0), (1, .int v1), (2, .int v2)]) (st' := []) (lay' := lay) (h' := h) 3 rfl ?_
  refine pc_ite e (fun e => ?_) (fun e => ?_)
  · refine seg_Bg (pc' := 20) (lv' := [(0, .int v0), (1, .int v1), (2, .int v2)]) (st' := [.int (v1 ||| v2), .int v0]) (lay' := lay) (h' := h) 4 rfl ?_
    refine call_Bg (a := 3) (la := [(0, .int v0), (1, .int (v1 ||| v2))]) (np := 23) (lv' := [(0, .int v0), (1, .int v1), (2, .int v2)]) (rest := []) (res := fun r => ([.int r], lay, h)) rfl e (fun r e => BJco_tells L xs v0 (v1 ||| v2) lay h r e) (fun c1 e => ?_)
    show Bg L xs 90 23 [(0, .int v0), (1, .int v1), (2, .int v2)] [.int c1] lay h R
    refine seg_Bg (pc' := 25) (lv' := [(0, .int v0), (1, .int v1), (2, .int v2)]) (st' := [.int v1, .int v0, .int c1]) (lay' := lay) (h' := h) 2 rfl ?_
    refine call_Bg (a := 3) (la := [(0, .int v0), (1, .int v1)]) (np := 28) (lv' := [(0, .int v0), (1, .int v1), (2, .int v2)]) (rest := [.int c1]) (res := fun r => ([.int r], lay, h)) rfl e (fun r e => BJco_tells L xs v0 v1 lay h r e) (fun c2 e => ?_)
    show Bg L xs 90 28 [(0, .int v0), (1, .int v1), (2, .int v2)] [.int c2, .int c1] lay h R
    refine seg_Bg (pc' := 30) (lv' := [(0, .int v0), (1, .int v1), (2, .int v2)]) (st' := [.int v2, .int v0, .int c2, .int c1]) (lay' := lay) (h' := h) 2 rfl ?_
    refine call_Bg (a := 3) (la := [(0, .int v0), (1, .int v2)]) (np := 33) (lv' := [(0, .int v0), (1, .int v1), (2, .int v2)]) (rest := [.int c2, .int c1]) (res := fun r => ([.int r], lay, h)) rfl e (fun r e => BJco_tells L xs v0 v2 lay h r e) (fun c3 e => ?_)
    show Bg L xs 90 33 [(0, .int v0), (1, .int v1), (2, .int v2)] [.int c3, .int c2, .int c1] lay h R
    refine seg_Bg (pc' := (if c1 = (c2 ||| c3) then 44 else 37)) (lv' := [(0, .int v0), (1, .int v1), (2, .int v2)]) (st' := []) (lay' := lay) (h' := h) 2 rfl ?_
    refine pc_ite e (fun e => ?_) (fun e => ?_)
    · refine seg_Bg (pc' := 10) (lv' := [(0, .int v0), (1, .int v1), (2, .int (v2 + 1))]) (st' := []) (lay' := lay) (h' := h) 2 rfl ?_
      exact hH (v2 + 1) (Option.some.inj e).symm
    · refine seg_Bg (pc' := 43) (lv' := [(0, .int v0), (1, .int v1), (2, .int v2)]) (st' := [.int (((8 : Int32) * v1) + v2)]) (lay' := lay) (h' := h) 5 rfl ?_
      rw [hR (((8 : Int32) * v1) + v2) (Option.some.inj e).symm]; exact ret_Bg rfl
  · exact hE v2 (Option.some.inj e).symm
theorem BJtr_firstUnlikeEither_L10 (L : Nat) (xs : Nat → Int32) (v0 v1 : Int32) (lay : Lay) (h : Hp) (R : List Value × Lay × Hp) (C : ((Int32) ⊕ (Int32)) → Prop) (hE : ∀ t : Int32, C (.inl t) → Bg L xs 90 50 [(0, .int v0), (1, .int v1), (2, .int t)] [] lay h R) (hR : ∀ r : Int32, C (.inr r) → R = ([.int r], lay, h)) (n : Nat) (s : Int32) (o : ((Int32) ⊕ (Int32))) (e : loopN n (fun s => Jtr_firstUnlikeEither_L10 v0 v1 s) s = some o) (hC : C o) : Bg L xs 90 10 [(0, .int v0), (1, .int v1), (2, .int s)] [] lay h R := by
  refine loop_B (fun s => Jtr_firstUnlikeEither_L10 v0 v1 s) (fun s : Int32 => Bg L xs 90 10 [(0, .int v0), (1, .int v1), (2, .int s)] [] lay h R) C (fun s o e => ?_) n s o e hC
  intro hK
  refine BJtr_firstUnlikeEither_L10_s L xs v0 v1 lay h R s o (fun s q => by subst q; exact hK) (fun t q => by subst q; exact hE t hK) (fun r q => by subst q; exact hR r hK) e
set_option maxRecDepth 100000 in
theorem BJtr_firstUnlikeEither_L2_s (L : Nat) (xs : Nat → Int32) (v0 : Int32) (lay : Lay) (h : Hp) (R : List Value × Lay × Hp) (v1 : Int32) (o : ((Int32) ⊕ ((Int32) ⊕ (Int32)))) (hH : ∀ s : Int32, o = .inl s → Bg L xs 90 2 [(0, .int v0), (1, .int s)] [] lay h R) (hE : ∀ t : Int32, o = .inr (.inl t) → Bg L xs 90 56 [(0, .int v0), (1, .int t)] [] lay h R) (hR : ∀ r : Int32, o = .inr (.inr r) → R = ([.int r], lay, h)) (e : Jtr_firstUnlikeEither_L2 v0 v1 = some o) : Bg L xs 90 2 [(0, .int v0), (1, .int v1)] [] lay h R := by
  refine seg_Bg (pc' := (if v1 < 8 then 8 else 56)) (lv' := [(0, .int v0), (1, .int v1)]) (st' := []) (lay' := lay) (h' := h) 3 rfl ?_
  refine pc_ite e (fun e => ?_) (fun e => ?_)
  · refine seg_Bg (pc' := 10) (lv' := [(0, .int v0), (1, .int v1), (2, .int 0)]) (st' := []) (lay' := lay) (h' := h) 2 rfl ?_
    obtain ⟨t4o, et4o, e⟩ := bd_s e
    refine BJtr_firstUnlikeEither_L10 L xs v0 v1 lay h R (fun (t4x : (Int32) ⊕ (Int32)) => (sm t4x (fun t4 => some (.inl (v1 + 1))) (fun r4 => some (.inr (.inr r4)))) = some o) (fun t4 e => ?_) (fun r4 e => ?_) 1000000 0 _ et4o e
    · refine seg_Bg (pc' := 2) (lv' := [(0, .int v0), (1, .int (v1 + 1)), (2, .int t4)]) (st' := []) (lay' := lay) (h' := h) 2 rfl ?_
      refine kp_Bg (lv' := [(0, .int v0), (1, .int (v1 + 1))]) rfl rfl ?_
      exact hH (v1 + 1) (Option.some.inj e).symm
    · exact hR r4 (Option.some.inj e).symm
  · exact hE v1 (Option.some.inj e).symm
theorem BJtr_firstUnlikeEither_L2 (L : Nat) (xs : Nat → Int32) (v0 : Int32) (lay : Lay) (h : Hp) (R : List Value × Lay × Hp) (C : ((Int32) ⊕ (Int32)) → Prop) (hE : ∀ t : Int32, C (.inl t) → Bg L xs 90 56 [(0, .int v0), (1, .int t)] [] lay h R) (hR : ∀ r : Int32, C (.inr r) → R = ([.int r], lay, h)) (n : Nat) (s : Int32) (o : ((Int32) ⊕ (Int32))) (e : loopN n (fun s => Jtr_firstUnlikeEither_L2 v0 s) s = some o) (hC : C o) : Bg L xs 90 2 [(0, .int v0), (1, .int s)] [] lay h R := by
  refine loop_B (fun s => Jtr_firstUnlikeEither_L2 v0 s) (fun s : Int32 => Bg L xs 90 2 [(0, .int v0), (1, .int s)] [] lay h R) C (fun s o e => ?_) n s o e hC
  intro hK
  refine BJtr_firstUnlikeEither_L2_s L xs v0 lay h R s o (fun s q => by subst q; exact hK) (fun t q => by subst q; exact hE t hK) (fun r q => by subst q; exact hR r hK) e
set_option maxRecDepth 100000 in
theorem BJtr_firstUnlikeEither (L : Nat) (xs : Nat → Int32) (v0 : Int32) (lay : Lay) (h : Hp) (o : Int32) (e : Jtr_firstUnlikeEither v0 = some o) : Bg L xs 90 0 [(0, .int v0)] [] lay h ([.int o], lay, h) := by
  obtain ⟨R, hR⟩ : ∃ R : List Value × Lay × Hp, R = ([.int o], lay, h) := ⟨_, rfl⟩
  rw [← hR]
  refine seg_Bg (pc' := 2) (lv' := [(0, .int v0), (1, .int 0)]) (st' := []) (lay' := lay) (h' := h) 2 rfl ?_
  obtain ⟨t5o, et5o, e⟩ := bd_s e
  refine BJtr_firstUnlikeEither_L2 L xs v0 lay h R (fun (t5x : (Int32) ⊕ (Int32)) => (sm t5x (fun t5 => some (-1)) (fun r5 => some r5)) = some o) (fun t5 e => ?_) (fun r5 e => ?_) 1000000 0 _ et5o e
  · refine seg_Bg (pc' := 57) (lv' := [(0, .int v0), (1, .int t5)]) (st' := [.int (-1)]) (lay' := lay) (h' := h) 1 rfl ?_
    rw [hR, ← Option.some.inj e]; exact ret_Bg rfl
  · rw [hR]; exact congrArg (fun r => (([.int r], lay, h) : List Value × Lay × Hp)) (Option.some.inj e).symm

set_option maxRecDepth 100000 in
theorem BJco_bitOf (L : Nat) (xs : Nat → Int32) (v0 : Int32) (lay : Lay) (h : Hp) (o : Int32) (e : Jco_bitOf v0 = some o) : Bg L xs 5 0 [(0, .int v0)] [] lay h ([.int o], lay, h) := by
  obtain ⟨R, hR⟩ : ∃ R : List Value × Lay × Hp, R = ([.int o], lay, h) := ⟨_, rfl⟩
  rw [← hR]
  refine seg_Bg (pc' := 3) (lv' := [(0, .int v0)]) (st' := [.int ((4 : Int32) >>> (v0 &&& 31) : Int32)]) (lay' := lay) (h' := h) 3 rfl ?_
  rw [hR, ← Option.some.inj e]; exact ret_Bg rfl

set_option maxRecDepth 100000 in
theorem BJco_hangsOn_L2_s (L : Nat) (xs : Nat → Int32) (v0 v1 : Int32) (lay : Lay) (h : Hp) (R : List Value × Lay × Hp) (v2 : Int32) (o : ((Int32) ⊕ ((Int32) ⊕ (Int32)))) (hH : ∀ s : Int32, o = .inl s → Bg L xs 9 2 [(0, .int v0), (1, .int v1), (2, .int s)] [] lay h R) (hE : ∀ t : Int32, o = .inr (.inl t) → Bg L xs 9 34 [(0, .int v0), (1, .int v1), (2, .int t)] [] lay h R) (hR : ∀ r : Int32, o = .inr (.inr r) → R = ([.int r], lay, h)) (e : Jco_hangsOn_L2 v0 v1 v2 = some o) : Bg L xs 9 2 [(0, .int v0), (1, .int v1), (2, .int v2)] [] lay h R := by
  refine seg_Bg (pc' := (if v2 < 8 then 8 else 34)) (lv' := [(0, .int v0), (1, .int v1), (2, .int v2)]) (st' := []) (lay' := lay) (h' := h) 3 rfl ?_
  refine pc_ite e (fun e => ?_) (fun e => ?_)
  · refine seg_Bg (pc' := 10) (lv' := [(0, .int v0), (1, .int v1), (2, .int v2)]) (st' := [.int v2, .int v0]) (lay' := lay) (h' := h) 2 rfl ?_
    refine call_Bg (a := 3) (la := [(0, .int v0), (1, .int v2)]) (np := 13) (lv' := [(0, .int v0), (1, .int v1), (2, .int v2)]) (rest := []) (res := fun r => ([.int r], lay, h)) rfl e (fun r e => BJco_tells L xs v0 v2 lay h r e) (fun c1 e => ?_)
    show Bg L xs 9 13 [(0, .int v0), (1, .int v1), (2, .int v2)] [.int c1] lay h R
    refine seg_Bg (pc' := 16) (lv' := [(0, .int v0), (1, .int v1), (2, .int v2)]) (st' := [.int v1, .int v2, .int v0, .int c1]) (lay' := lay) (h' := h) 3 rfl ?_
    refine call_Bg (a := 5) (la := [(0, .int v1)]) (np := 19) (lv' := [(0, .int v0), (1, .int v1), (2, .int v2)]) (rest := [.int v2, .int v0, .int c1]) (res := fun r => ([.int r], lay, h)) rfl e (fun r e => BJco_bitOf L xs v1 lay h r e) (fun c2 e => ?_)
    show Bg L xs 9 19 [(0, .int v0), (1, .int v1), (2, .int v2)] [.int c2, .int v2, .int v0, .int c1] lay h R
    refine seg_Bg (pc' := 20) (lv' := [(0, .int v0), (1, .int v1), (2, .int v2)]) (st' := [.int (v2 ^^^ c2), .int v0, .int c1]) (lay' := lay) (h' := h) 1 rfl ?_
    refine call_Bg (a := 3) (la := [(0, .int v0), (1, .int (v2 ^^^ c2))]) (np := 23) (lv' := [(0, .int v0), (1, .int v1), (2, .int v2)]) (rest := [.int c1]) (res := fun r => ([.int r], lay, h)) rfl e (fun r e => BJco_tells L xs v0 (v2 ^^^ c2) lay h r e) (fun c3 e => ?_)
    show Bg L xs 9 23 [(0, .int v0), (1, .int v1), (2, .int v2)] [.int c3, .int c1] lay h R
    refine seg_Bg (pc' := (if c1 = c3 then 28 else 26)) (lv' := [(0, .int v0), (1, .int v1), (2, .int v2)]) (st' := []) (lay' := lay) (h' := h) 1 rfl ?_
    refine pc_ite e (fun e => ?_) (fun e => ?_)
    · refine seg_Bg (pc' := 2) (lv' := [(0, .int v0), (1, .int v1), (2, .int (v2 + 1))]) (st' := []) (lay' := lay) (h' := h) 2 rfl ?_
      exact hH (v2 + 1) (Option.some.inj e).symm
    · refine seg_Bg (pc' := 27) (lv' := [(0, .int v0), (1, .int v1), (2, .int v2)]) (st' := [.int 1]) (lay' := lay) (h' := h) 1 rfl ?_
      rw [hR 1 (Option.some.inj e).symm]; exact ret_Bg rfl
  · exact hE v2 (Option.some.inj e).symm
theorem BJco_hangsOn_L2 (L : Nat) (xs : Nat → Int32) (v0 v1 : Int32) (lay : Lay) (h : Hp) (R : List Value × Lay × Hp) (C : ((Int32) ⊕ (Int32)) → Prop) (hE : ∀ t : Int32, C (.inl t) → Bg L xs 9 34 [(0, .int v0), (1, .int v1), (2, .int t)] [] lay h R) (hR : ∀ r : Int32, C (.inr r) → R = ([.int r], lay, h)) (n : Nat) (s : Int32) (o : ((Int32) ⊕ (Int32))) (e : loopN n (fun s => Jco_hangsOn_L2 v0 v1 s) s = some o) (hC : C o) : Bg L xs 9 2 [(0, .int v0), (1, .int v1), (2, .int s)] [] lay h R := by
  refine loop_B (fun s => Jco_hangsOn_L2 v0 v1 s) (fun s : Int32 => Bg L xs 9 2 [(0, .int v0), (1, .int v1), (2, .int s)] [] lay h R) C (fun s o e => ?_) n s o e hC
  intro hK
  refine BJco_hangsOn_L2_s L xs v0 v1 lay h R s o (fun s q => by subst q; exact hK) (fun t q => by subst q; exact hE t hK) (fun r q => by subst q; exact hR r hK) e
set_option maxRecDepth 100000 in
theorem BJco_hangsOn (L : Nat) (xs : Nat → Int32) (v0 : Int32) (v1 : Int32) (lay : Lay) (h : Hp) (o : Int32) (e : Jco_hangsOn v0 v1 = some o) : Bg L xs 9 0 [(0, .int v0), (1, .int v1)] [] lay h ([.int o], lay, h) := by
  obtain ⟨R, hR⟩ : ∃ R : List Value × Lay × Hp, R = ([.int o], lay, h) := ⟨_, rfl⟩
  rw [← hR]
  refine seg_Bg (pc' := 2) (lv' := [(0, .int v0), (1, .int v1), (2, .int 0)]) (st' := []) (lay' := lay) (h' := h) 2 rfl ?_
  obtain ⟨t4o, et4o, e⟩ := bd_s e
  refine BJco_hangsOn_L2 L xs v0 v1 lay h R (fun (t4x : (Int32) ⊕ (Int32)) => (sm t4x (fun t4 => some 0) (fun r4 => some r4)) = some o) (fun t4 e => ?_) (fun r4 e => ?_) 1000000 0 _ et4o e
  · refine seg_Bg (pc' := 35) (lv' := [(0, .int v0), (1, .int v1), (2, .int t4)]) (st' := [.int 0]) (lay' := lay) (h' := h) 1 rfl ?_
    rw [hR, ← Option.some.inj e]; exact ret_Bg rfl
  · rw [hR]; exact congrArg (fun r => (([.int r], lay, h) : List Value × Lay × Hp)) (Option.some.inj e).symm

set_option maxRecDepth 100000 in
theorem BJtr_firstTwoVariables_L4_s (L : Nat) (xs : Nat → Int32) (v0 : Int32) (lay : Lay) (h : Hp) (R : List Value × Lay × Hp) (v1 v2 : Int32) (o : ((Int32 × Int32) ⊕ ((Int32 × Int32) ⊕ (Int32)))) (hH : ∀ s : Int32 × Int32, o = .inl s → Bg L xs 91 4 [(0, .int v0), (1, .int s.1), (2, .int s.2)] [] lay h R) (hE : ∀ t : Int32 × Int32, o = .inr (.inl t) → Bg L xs 91 37 [(0, .int v0), (1, .int t.1), (2, .int t.2)] [] lay h R) (hR : ∀ r : Int32, o = .inr (.inr r) → R = ([.int r], lay, h)) (e : Jtr_firstTwoVariables_L4 v0 v1 v2 = some o) : Bg L xs 91 4 [(0, .int v0), (1, .int v1), (2, .int v2)] [] lay h R := by
  refine seg_Bg (pc' := (if v2 < 3 then 9 else 37)) (lv' := [(0, .int v0), (1, .int v1), (2, .int v2)]) (st' := []) (lay' := lay) (h' := h) 3 rfl ?_
  refine pc_ite e (fun e => ?_) (fun e => ?_)
  · refine seg_Bg (pc' := 11) (lv' := [(0, .int v0), (1, .int v1), (2, .int v2)]) (st' := [.int v2, .int v0]) (lay' := lay) (h' := h) 2 rfl ?_
    refine call_Bg (a := 9) (la := [(0, .int v0), (1, .int v2)]) (np := 14) (lv' := [(0, .int v0), (1, .int v1), (2, .int v2)]) (rest := []) (res := fun r => ([.int r], lay, h)) rfl e (fun r e => BJco_hangsOn L xs v0 v2 lay h r e) (fun c1 e => ?_)
    show Bg L xs 91 14 [(0, .int v0), (1, .int v1), (2, .int v2)] [.int c1] lay h R
    refine seg_Bg (pc' := (if c1 = 0 then 31 else 17)) (lv' := [(0, .int v0), (1, .int v1), (2, .int v2)]) (st' := []) (lay' := lay) (h' := h) 1 rfl ?_
    refine pc_ite e (fun e => ?_) (fun e => ?_)
    · refine seg_Bg (pc' := 4) (lv' := [(0, .int v0), (1, .int v1), (2, .int (v2 + 1))]) (st' := []) (lay' := lay) (h' := h) 2 rfl ?_
      exact hH (v1, v2 + 1) (Option.some.inj e).symm
    · refine seg_Bg (pc' := (if v1 = (-1) then 29 else 22)) (lv' := [(0, .int v0), (1, .int v1), (2, .int v2)]) (st' := []) (lay' := lay) (h' := h) 3 rfl ?_
      refine pc_ite e (fun e => ?_) (fun e => ?_)
      · refine seg_Bg (pc' := 4) (lv' := [(0, .int v0), (1, .int v2), (2, .int (v2 + 1))]) (st' := []) (lay' := lay) (h' := h) 4 rfl ?_
        exact hH (v2, v2 + 1) (Option.some.inj e).symm
      · refine seg_Bg (pc' := 28) (lv' := [(0, .int v0), (1, .int v1), (2, .int v2)]) (st' := [.int (((8 : Int32) * v1) + v2)]) (lay' := lay) (h' := h) 5 rfl ?_
        rw [hR (((8 : Int32) * v1) + v2) (Option.some.inj e).symm]; exact ret_Bg rfl
  · exact hE (v1, v2) (Option.some.inj e).symm
theorem BJtr_firstTwoVariables_L4 (L : Nat) (xs : Nat → Int32) (v0 : Int32) (lay : Lay) (h : Hp) (R : List Value × Lay × Hp) (C : ((Int32 × Int32) ⊕ (Int32)) → Prop) (hE : ∀ t : Int32 × Int32, C (.inl t) → Bg L xs 91 37 [(0, .int v0), (1, .int t.1), (2, .int t.2)] [] lay h R) (hR : ∀ r : Int32, C (.inr r) → R = ([.int r], lay, h)) (n : Nat) (s : Int32 × Int32) (o : ((Int32 × Int32) ⊕ (Int32))) (e : loopN n (fun s => Jtr_firstTwoVariables_L4 v0 s.1 s.2) s = some o) (hC : C o) : Bg L xs 91 4 [(0, .int v0), (1, .int s.1), (2, .int s.2)] [] lay h R := by
  refine loop_B (fun s => Jtr_firstTwoVariables_L4 v0 s.1 s.2) (fun s : Int32 × Int32 => Bg L xs 91 4 [(0, .int v0), (1, .int s.1), (2, .int s.2)] [] lay h R) C (fun s o e => ?_) n s o e hC
  intro hK
  refine BJtr_firstTwoVariables_L4_s L xs v0 lay h R s.1 s.2 o (fun s q => by subst q; exact hK) (fun t q => by subst q; exact hE t hK) (fun r q => by subst q; exact hR r hK) e
set_option maxRecDepth 100000 in
theorem BJtr_firstTwoVariables (L : Nat) (xs : Nat → Int32) (v0 : Int32) (lay : Lay) (h : Hp) (o : Int32) (e : Jtr_firstTwoVariables v0 = some o) : Bg L xs 91 0 [(0, .int v0)] [] lay h ([.int o], lay, h) := by
  obtain ⟨R, hR⟩ : ∃ R : List Value × Lay × Hp, R = ([.int o], lay, h) := ⟨_, rfl⟩
  rw [← hR]
  refine seg_Bg (pc' := 4) (lv' := [(0, .int v0), (1, .int (-1)), (2, .int 0)]) (st' := []) (lay' := lay) (h' := h) 4 rfl ?_
  obtain ⟨t2o, et2o, e⟩ := bd_s e
  refine BJtr_firstTwoVariables_L4 L xs v0 lay h R (fun (t2x : (Int32 × Int32) ⊕ (Int32)) => (sm t2x (fun t2 => some (-1)) (fun r2 => some r2)) = some o) (fun t2 e => ?_) (fun r2 e => ?_) 1000000 ((-1), 0) _ et2o e
  · refine seg_Bg (pc' := 38) (lv' := [(0, .int v0), (1, .int t2.1), (2, .int t2.2)]) (st' := [.int (-1)]) (lay' := lay) (h' := h) 1 rfl ?_
    rw [hR, ← Option.some.inj e]; exact ret_Bg rfl
  · rw [hR]; exact congrArg (fun r => (([.int r], lay, h) : List Value × Lay × Hp)) (Option.some.inj e).symm

set_option maxRecDepth 100000 in
theorem BJtr_areStrangers (L : Nat) (xs : Nat → Int32) (v0 : Int32) (v1 : Int32) (v2 : Int32) (v3 : Int32) (lay : Lay) (h : Hp) (o : Int32) (e : Jtr_areStrangers v0 v1 v2 v3 = some o) : Bg L xs 94 0 [(0, .int v0), (1, .int v1), (2, .int v2), (3, .int v3)] [] lay h ([.int o], lay, h) := by
  obtain ⟨R, hR⟩ : ∃ R : List Value × Lay × Hp, R = ([.int o], lay, h) := ⟨_, rfl⟩
  rw [← hR]
  refine seg_Bg (pc' := (if v0 = 1 then 5 else 21)) (lv' := [(0, .int v0), (1, .int v1), (2, .int v2), (3, .int v3)]) (st' := []) (lay' := lay) (h' := h) 3 rfl ?_
  refine pc_ite e (fun e => ?_) (fun e => ?_)
  · refine seg_Bg (pc' := (if ((v1 &&& v2) &&& v3) = 0 then 13 else 17)) (lv' := [(0, .int v0), (1, .int v1), (2, .int v2), (3, .int v3)]) (st' := []) (lay' := lay) (h' := h) 6 rfl ?_
    refine pc_ite e (fun e => ?_) (fun e => ?_)
    · refine seg_Bg (pc' := 36) (lv' := [(0, .int v0), (1, .int v1), (2, .int v2), (3, .int v3)]) (st' := [.int 1]) (lay' := lay) (h' := h) 2 rfl ?_
      rw [hR, ← Option.some.inj e]; exact ret_Bg rfl
    · refine seg_Bg (pc' := 36) (lv' := [(0, .int v0), (1, .int v1), (2, .int v2), (3, .int v3)]) (st' := [.int 0]) (lay' := lay) (h' := h) 2 rfl ?_
      rw [hR, ← Option.some.inj e]; exact ret_Bg rfl
  · refine seg_Bg (pc' := (if ((v1 ||| v2) ||| v3) = 7 then 31 else 35)) (lv' := [(0, .int v0), (1, .int v1), (2, .int v2), (3, .int v3)]) (st' := []) (lay' := lay) (h' := h) 7 rfl ?_
    refine pc_ite e (fun e => ?_) (fun e => ?_)
    · refine seg_Bg (pc' := 36) (lv' := [(0, .int v0), (1, .int v1), (2, .int v2), (3, .int v3)]) (st' := [.int 1]) (lay' := lay) (h' := h) 2 rfl ?_
      rw [hR, ← Option.some.inj e]; exact ret_Bg rfl
    · refine seg_Bg (pc' := 36) (lv' := [(0, .int v0), (1, .int v1), (2, .int v2), (3, .int v3)]) (st' := [.int 0]) (lay' := lay) (h' := h) 1 rfl ?_
      rw [hR, ← Option.some.inj e]; exact ret_Bg rfl

set_option maxRecDepth 100000 in
theorem BJtr_firstThird_L3_s (L : Nat) (xs : Nat → Int32) (v0 v1 v2 v3 : Int32) (lay : Lay) (h : Hp) (R : List Value × Lay × Hp) (v4 : Int32) (o : ((Int32) ⊕ ((Int32) ⊕ (Int32)))) (hH : ∀ s : Int32, o = .inl s → Bg L xs 93 3 [(0, .int v0), (1, .int v1), (2, .int v2), (3, .int v3), (4, .int s)] [] lay h R) (hE : ∀ t : Int32, o = .inr (.inl t) → Bg L xs 93 40 [(0, .int v0), (1, .int v1), (2, .int v2), (3, .int v3), (4, .int t)] [] lay h R) (hR : ∀ r : Int32, o = .inr (.inr r) → R = ([.int r], lay, h)) (e : Jtr_firstThird_L3 v0 v1 v2 v3 v4 = some o) : Bg L xs 93 3 [(0, .int v0), (1, .int v1), (2, .int v2), (3, .int v3), (4, .int v4)] [] lay h R := by
  refine seg_Bg (pc' := (if v4 < 8 then 10 else 40)) (lv' := [(0, .int v0), (1, .int v1), (2, .int v2), (3, .int v3), (4, .int v4)]) (st' := []) (lay' := lay) (h' := h) 3 rfl ?_
  refine pc_ite e (fun e => ?_) (fun e => ?_)
  · refine seg_Bg (pc' := 13) (lv' := [(0, .int v0), (1, .int v1), (2, .int v2), (3, .int v3), (4, .int v4)]) (st' := [.int v4, .int v0]) (lay' := lay) (h' := h) 2 rfl ?_
    refine call_Bg (a := 3) (la := [(0, .int v0), (1, .int v4)]) (np := 16) (lv' := [(0, .int v0), (1, .int v1), (2, .int v2), (3, .int v3), (4, .int v4)]) (rest := []) (res := fun r => ([.int r], lay, h)) rfl e (fun r e => BJco_tells L xs v0 v4 lay h r e) (fun c1 e => ?_)
    show Bg L xs 93 16 [(0, .int v0), (1, .int v1), (2, .int v2), (3, .int v3), (4, .int v4)] [.int c1] lay h R
    refine seg_Bg (pc' := (if c1 = v1 then 20 else 34)) (lv' := [(0, .int v0), (1, .int v1), (2, .int v2), (3, .int v3), (4, .int v4)]) (st' := []) (lay' := lay) (h' := h) 2 rfl ?_
    refine pc_ite e (fun e => ?_) (fun e => ?_)
    · refine seg_Bg (pc' := 25) (lv' := [(0, .int v0), (1, .int v1), (2, .int v2), (3, .int v3), (4, .int v4)]) (st' := [.int v4, .int v3, .int v2, .int v1]) (lay' := lay) (h' := h) 4 rfl ?_
      refine call_Bg (a := 94) (la := [(0, .int v1), (1, .int v2), (2, .int v3), (3, .int v4)]) (np := 28) (lv' := [(0, .int v0), (1, .int v1), (2, .int v2), (3, .int v3), (4, .int v4)]) (rest := []) (res := fun r => ([.int r], lay, h)) rfl e (fun r e => BJtr_areStrangers L xs v1 v2 v3 v4 lay h r e) (fun c2 e => ?_)
      show Bg L xs 93 28 [(0, .int v0), (1, .int v1), (2, .int v2), (3, .int v3), (4, .int v4)] [.int c2] lay h R
      refine seg_Bg (pc' := (if c2 = 0 then 34 else 31)) (lv' := [(0, .int v0), (1, .int v1), (2, .int v2), (3, .int v3), (4, .int v4)]) (st' := []) (lay' := lay) (h' := h) 1 rfl ?_
      refine pc_ite e (fun e => ?_) (fun e => ?_)
      · refine seg_Bg (pc' := 3) (lv' := [(0, .int v0), (1, .int v1), (2, .int v2), (3, .int v3), (4, .int (v4 + 1))]) (st' := []) (lay' := lay) (h' := h) 2 rfl ?_
        exact hH (v4 + 1) (Option.some.inj e).symm
      · refine seg_Bg (pc' := 33) (lv' := [(0, .int v0), (1, .int v1), (2, .int v2), (3, .int v3), (4, .int v4)]) (st' := [.int v4]) (lay' := lay) (h' := h) 1 rfl ?_
        rw [hR v4 (Option.some.inj e).symm]; exact ret_Bg rfl
    · refine seg_Bg (pc' := 3) (lv' := [(0, .int v0), (1, .int v1), (2, .int v2), (3, .int v3), (4, .int (v4 + 1))]) (st' := []) (lay' := lay) (h' := h) 2 rfl ?_
      exact hH (v4 + 1) (Option.some.inj e).symm
  · exact hE v4 (Option.some.inj e).symm
theorem BJtr_firstThird_L3 (L : Nat) (xs : Nat → Int32) (v0 v1 v2 v3 : Int32) (lay : Lay) (h : Hp) (R : List Value × Lay × Hp) (C : ((Int32) ⊕ (Int32)) → Prop) (hE : ∀ t : Int32, C (.inl t) → Bg L xs 93 40 [(0, .int v0), (1, .int v1), (2, .int v2), (3, .int v3), (4, .int t)] [] lay h R) (hR : ∀ r : Int32, C (.inr r) → R = ([.int r], lay, h)) (n : Nat) (s : Int32) (o : ((Int32) ⊕ (Int32))) (e : loopN n (fun s => Jtr_firstThird_L3 v0 v1 v2 v3 s) s = some o) (hC : C o) : Bg L xs 93 3 [(0, .int v0), (1, .int v1), (2, .int v2), (3, .int v3), (4, .int s)] [] lay h R := by
  refine loop_B (fun s => Jtr_firstThird_L3 v0 v1 v2 v3 s) (fun s : Int32 => Bg L xs 93 3 [(0, .int v0), (1, .int v1), (2, .int v2), (3, .int v3), (4, .int s)] [] lay h R) C (fun s o e => ?_) n s o e hC
  intro hK
  refine BJtr_firstThird_L3_s L xs v0 v1 v2 v3 lay h R s o (fun s q => by subst q; exact hK) (fun t q => by subst q; exact hE t hK) (fun r q => by subst q; exact hR r hK) e
set_option maxRecDepth 100000 in
theorem BJtr_firstThird (L : Nat) (xs : Nat → Int32) (v0 : Int32) (v1 : Int32) (v2 : Int32) (v3 : Int32) (lay : Lay) (h : Hp) (o : Int32) (e : Jtr_firstThird v0 v1 v2 v3 = some o) : Bg L xs 93 0 [(0, .int v0), (1, .int v1), (2, .int v2), (3, .int v3)] [] lay h ([.int o], lay, h) := by
  obtain ⟨R, hR⟩ : ∃ R : List Value × Lay × Hp, R = ([.int o], lay, h) := ⟨_, rfl⟩
  rw [← hR]
  refine seg_Bg (pc' := 3) (lv' := [(0, .int v0), (1, .int v1), (2, .int v2), (3, .int v3), (4, .int v3)]) (st' := []) (lay' := lay) (h' := h) 2 rfl ?_
  obtain ⟨t3o, et3o, e⟩ := bd_s e
  refine BJtr_firstThird_L3 L xs v0 v1 v2 v3 lay h R (fun (t3x : (Int32) ⊕ (Int32)) => (sm t3x (fun t3 => some (-1)) (fun r3 => some r3)) = some o) (fun t3 e => ?_) (fun r3 e => ?_) 1000000 v3 _ et3o e
  · refine seg_Bg (pc' := 41) (lv' := [(0, .int v0), (1, .int v1), (2, .int v2), (3, .int v3), (4, .int t3)]) (st' := [.int (-1)]) (lay' := lay) (h' := h) 1 rfl ?_
    rw [hR, ← Option.some.inj e]; exact ret_Bg rfl
  · rw [hR]; exact congrArg (fun r => (([.int r], lay, h) : List Value × Lay × Hp)) (Option.some.inj e).symm

set_option maxRecDepth 100000 in
theorem BJtr_firstStrangers_J69 (L : Nat) (xs : Nat → Int32) (v0 v1 v2 v3 v4 s0 : Int32) (lay : Lay) (h : Hp) (o : ((Int32) ⊕ ((Int32) ⊕ (Int32)))) (e : Jtr_firstStrangers_J69 v0 v1 v2 v3 v4 s0 = some o) (R : List Value × Lay × Hp) (hH : ∀ s : Int32, o = .inl s → Bg L xs 92 11 [(0, .int v0), (1, .int v1), (2, .int v2), (3, .int v3), (4, .int s)] [] lay h R) (hE : ∀ t : Int32, o = .inr (.inl t) → Bg L xs 92 111 [(0, .int v0), (1, .int v1), (2, .int v2), (3, .int v3), (4, .int t)] [] lay h R) (hR : ∀ r : Int32, o = .inr (.inr r) → R = ([.int r], lay, h)) : Bg L xs 92 69 [(0, .int v0), (1, .int v1), (2, .int v2), (3, .int v3), (4, .int v4)] [.int s0] lay h R := by
  refine seg_Bg (pc' := (if s0 = (-1) then 105 else 77)) (lv' := [(0, .int v0), (1, .int v1), (2, .int v2), (3, .int v3), (4, .int v4), (5, .int s0)]) (st' := []) (lay' := lay) (h' := h) 4 rfl ?_
  refine pc_ite e (fun e => ?_) (fun e => ?_)
  · refine seg_Bg (pc' := 11) (lv' := [(0, .int v0), (1, .int v1), (2, .int v2), (3, .int v3), (4, .int (v4 + 1))]) (st' := []) (lay' := lay) (h' := h) 2 rfl ?_
    exact hH (v4 + 1) (Option.some.inj e).symm
  · refine seg_Bg (pc' := (if v2 = 0 then 91 else 81)) (lv' := [(0, .int v0), (1, .int v1), (2, .int v2), (3, .int v3), (4, .int v4), (5, .int s0)]) (st' := []) (lay' := lay) (h' := h) 2 rfl ?_
    refine pc_ite e (fun e => ?_) (fun e => ?_)
    · refine seg_Bg (pc' := 104) (lv' := [(0, .int v0), (1, .int v1), (2, .int v2), (3, .int v3), (4, .int v4), (5, .int s0)]) (st' := [.int ((((64 : Int32) * v3) + ((8 : Int32) * v4)) + s0)]) (lay' := lay) (h' := h) 9 rfl ?_
      rw [hR ((((64 : Int32) * v3) + ((8 : Int32) * v4)) + s0) (Option.some.inj e).symm]; exact ret_Bg rfl
    · refine seg_Bg (pc' := 104) (lv' := [(0, .int v0), (1, .int v1), (2, .int v2), (3, .int v3), (4, .int v4), (5, .int s0)]) (st' := [.int (((8 : Int32) * v3) + v4)]) (lay' := lay) (h' := h) 6 rfl ?_
      rw [hR (((8 : Int32) * v3) + v4) (Option.some.inj e).symm]; exact ret_Bg rfl
set_option maxRecDepth 100000 in
theorem BJtr_firstStrangers_L11_s (L : Nat) (xs : Nat → Int32) (v0 v1 v2 v3 : Int32) (lay : Lay) (h : Hp) (R : List Value × Lay × Hp) (v4 : Int32) (o : ((Int32) ⊕ ((Int32) ⊕ (Int32)))) (hH : ∀ s : Int32, o = .inl s → Bg L xs 92 11 [(0, .int v0), (1, .int v1), (2, .int v2), (3, .int v3), (4, .int s)] [] lay h R) (hE : ∀ t : Int32, o = .inr (.inl t) → Bg L xs 92 111 [(0, .int v0), (1, .int v1), (2, .int v2), (3, .int v3), (4, .int t)] [] lay h R) (hR : ∀ r : Int32, o = .inr (.inr r) → R = ([.int r], lay, h)) (e : Jtr_firstStrangers_L11 v0 v1 v2 v3 v4 = some o) : Bg L xs 92 11 [(0, .int v0), (1, .int v1), (2, .int v2), (3, .int v3), (4, .int v4)] [] lay h R := by
  refine seg_Bg (pc' := (if v4 < 8 then 18 else 111)) (lv' := [(0, .int v0), (1, .int v1), (2, .int v2), (3, .int v3), (4, .int v4)]) (st' := []) (lay' := lay) (h' := h) 3 rfl ?_
  refine pc_ite e (fun e => ?_) (fun e => ?_)
  · refine seg_Bg (pc' := 20) (lv' := [(0, .int v0), (1, .int v1), (2, .int v2), (3, .int v3), (4, .int v4)]) (st' := [.int v3, .int v0]) (lay' := lay) (h' := h) 2 rfl ?_
    refine call_Bg (a := 3) (la := [(0, .int v0), (1, .int v3)]) (np := 23) (lv' := [(0, .int v0), (1, .int v1), (2, .int v2), (3, .int v3), (4, .int v4)]) (rest := []) (res := fun r => ([.int r], lay, h)) rfl e (fun r e => BJco_tells L xs v0 v3 lay h r e) (fun c1 e => ?_)
    show Bg L xs 92 23 [(0, .int v0), (1, .int v1), (2, .int v2), (3, .int v3), (4, .int v4)] [.int c1] lay h R
    refine seg_Bg (pc' := (if c1 = v1 then 27 else 111)) (lv' := [(0, .int v0), (1, .int v1), (2, .int v2), (3, .int v3), (4, .int v4)]) (st' := []) (lay' := lay) (h' := h) 2 rfl ?_
    refine pc_ite e (fun e => ?_) (fun e => ?_)
    · refine seg_Bg (pc' := 30) (lv' := [(0, .int v0), (1, .int v1), (2, .int v2), (3, .int v3), (4, .int v4)]) (st' := [.int v4, .int v0]) (lay' := lay) (h' := h) 2 rfl ?_
      refine call_Bg (a := 3) (la := [(0, .int v0), (1, .int v4)]) (np := 33) (lv' := [(0, .int v0), (1, .int v1), (2, .int v2), (3, .int v3), (4, .int v4)]) (rest := []) (res := fun r => ([.int r], lay, h)) rfl e (fun r e => BJco_tells L xs v0 v4 lay h r e) (fun c2 e => ?_)
      show Bg L xs 92 33 [(0, .int v0), (1, .int v1), (2, .int v2), (3, .int v3), (4, .int v4)] [.int c2] lay h R
      refine seg_Bg (pc' := (if c2 = v1 then 37 else 105)) (lv' := [(0, .int v0), (1, .int v1), (2, .int v2), (3, .int v3), (4, .int v4)]) (st' := []) (lay' := lay) (h' := h) 2 rfl ?_
      refine pc_ite e (fun e => ?_) (fun e => ?_)
      · refine seg_Bg (pc' := (if v2 = 0 then 61 else 41)) (lv' := [(0, .int v0), (1, .int v1), (2, .int v2), (3, .int v3), (4, .int v4)]) (st' := []) (lay' := lay) (h' := h) 2 rfl ?_
        refine pc_ite e (fun e => ?_) (fun e => ?_)
        · refine seg_Bg (pc' := 66) (lv' := [(0, .int v0), (1, .int v1), (2, .int v2), (3, .int v3), (4, .int v4)]) (st' := [.int v4, .int v3, .int v1, .int v0]) (lay' := lay) (h' := h) 4 rfl ?_
          refine call_Bg (a := 93) (la := [(0, .int v0), (1, .int v1), (2, .int v3), (3, .int v4)]) (np := 69) (lv' := [(0, .int v0), (1, .int v1), (2, .int v2), (3, .int v3), (4, .int v4)]) (rest := []) (res := fun r => ([.int r], lay, h)) rfl e (fun r e => BJtr_firstThird L xs v0 v1 v3 v4 lay h r e) (fun c3 e => ?_)
          show Bg L xs 92 69 [(0, .int v0), (1, .int v1), (2, .int v2), (3, .int v3), (4, .int v4)] [.int c3] lay h R
          refine seg_Bg (pc' := (if c3 = (-1) then 105 else 77)) (lv' := [(0, .int v0), (1, .int v1), (2, .int v2), (3, .int v3), (4, .int v4), (5, .int c3)]) (st' := []) (lay' := lay) (h' := h) 4 rfl ?_
          refine pc_ite e (fun e => ?_) (fun e => ?_)
          · refine seg_Bg (pc' := 11) (lv' := [(0, .int v0), (1, .int v1), (2, .int v2), (3, .int v3), (4, .int (v4 + 1))]) (st' := []) (lay' := lay) (h' := h) 2 rfl ?_
            exact hH (v4 + 1) (Option.some.inj e).symm
          · refine seg_Bg (pc' := (if v2 = 0 then 91 else 81)) (lv' := [(0, .int v0), (1, .int v1), (2, .int v2), (3, .int v3), (4, .int v4), (5, .int c3)]) (st' := []) (lay' := lay) (h' := h) 2 rfl ?_
            refine pc_ite e (fun e => ?_) (fun e => ?_)
            · refine seg_Bg (pc' := 104) (lv' := [(0, .int v0), (1, .int v1), (2, .int v2), (3, .int v3), (4, .int v4), (5, .int c3)]) (st' := [.int ((((64 : Int32) * v3) + ((8 : Int32) * v4)) + c3)]) (lay' := lay) (h' := h) 9 rfl ?_
              rw [hR ((((64 : Int32) * v3) + ((8 : Int32) * v4)) + c3) (Option.some.inj e).symm]; exact ret_Bg rfl
            · refine seg_Bg (pc' := 104) (lv' := [(0, .int v0), (1, .int v1), (2, .int v2), (3, .int v3), (4, .int v4), (5, .int c3)]) (st' := [.int (((8 : Int32) * v3) + v4)]) (lay' := lay) (h' := h) 6 rfl ?_
              rw [hR (((8 : Int32) * v3) + v4) (Option.some.inj e).symm]; exact ret_Bg rfl
        · refine seg_Bg (pc' := 47) (lv' := [(0, .int v0), (1, .int v1), (2, .int v2), (3, .int v3), (4, .int v4)]) (st' := [.int v4, .int v4, .int v3, .int v1]) (lay' := lay) (h' := h) 4 rfl ?_
          refine call_Bg (a := 94) (la := [(0, .int v1), (1, .int v3), (2, .int v4), (3, .int v4)]) (np := 50) (lv' := [(0, .int v0), (1, .int v1), (2, .int v2), (3, .int v3), (4, .int v4)]) (rest := []) (res := fun r => ([.int r], lay, h)) rfl e (fun r e => BJtr_areStrangers L xs v1 v3 v4 v4 lay h r e) (fun c4 e => ?_)
          show Bg L xs 92 50 [(0, .int v0), (1, .int v1), (2, .int v2), (3, .int v3), (4, .int v4)] [.int c4] lay h R
          refine seg_Bg (pc' := (if c4 = 0 then 57 else 53)) (lv' := [(0, .int v0), (1, .int v1), (2, .int v2), (3, .int v3), (4, .int v4)]) (st' := []) (lay' := lay) (h' := h) 1 rfl ?_
          refine pc_ite e (fun e => ?_) (fun e => ?_)
          · refine seg_Bg (pc' := 69) (lv' := [(0, .int v0), (1, .int v1), (2, .int v2), (3, .int v3), (4, .int v4)]) (st' := [.int (-1)]) (lay' := lay) (h' := h) 2 rfl ?_
            exact BJtr_firstStrangers_J69 L xs v0 v1 v2 v3 v4 (-1) lay h o e R hH hE hR
          · refine seg_Bg (pc' := 69) (lv' := [(0, .int v0), (1, .int v1), (2, .int v2), (3, .int v3), (4, .int v4)]) (st' := [.int 0]) (lay' := lay) (h' := h) 2 rfl ?_
            exact BJtr_firstStrangers_J69 L xs v0 v1 v2 v3 v4 0 lay h o e R hH hE hR
      · refine seg_Bg (pc' := 11) (lv' := [(0, .int v0), (1, .int v1), (2, .int v2), (3, .int v3), (4, .int (v4 + 1))]) (st' := []) (lay' := lay) (h' := h) 2 rfl ?_
        exact hH (v4 + 1) (Option.some.inj e).symm
    · exact hE v4 (Option.some.inj e).symm
  · exact hE v4 (Option.some.inj e).symm
theorem BJtr_firstStrangers_L11 (L : Nat) (xs : Nat → Int32) (v0 v1 v2 v3 : Int32) (lay : Lay) (h : Hp) (R : List Value × Lay × Hp) (C : ((Int32) ⊕ (Int32)) → Prop) (hE : ∀ t : Int32, C (.inl t) → Bg L xs 92 111 [(0, .int v0), (1, .int v1), (2, .int v2), (3, .int v3), (4, .int t)] [] lay h R) (hR : ∀ r : Int32, C (.inr r) → R = ([.int r], lay, h)) (n : Nat) (s : Int32) (o : ((Int32) ⊕ (Int32))) (e : loopN n (fun s => Jtr_firstStrangers_L11 v0 v1 v2 v3 s) s = some o) (hC : C o) : Bg L xs 92 11 [(0, .int v0), (1, .int v1), (2, .int v2), (3, .int v3), (4, .int s)] [] lay h R := by
  refine loop_B (fun s => Jtr_firstStrangers_L11 v0 v1 v2 v3 s) (fun s : Int32 => Bg L xs 92 11 [(0, .int v0), (1, .int v1), (2, .int v2), (3, .int v3), (4, .int s)] [] lay h R) C (fun s o e => ?_) n s o e hC
  intro hK
  refine BJtr_firstStrangers_L11_s L xs v0 v1 v2 v3 lay h R s o (fun s q => by subst q; exact hK) (fun t q => by subst q; exact hE t hK) (fun r q => by subst q; exact hR r hK) e
set_option maxRecDepth 100000 in
theorem BJtr_firstStrangers_L2_s (L : Nat) (xs : Nat → Int32) (v0 v1 v2 : Int32) (lay : Lay) (h : Hp) (R : List Value × Lay × Hp) (v3 : Int32) (o : ((Int32) ⊕ ((Int32) ⊕ (Int32)))) (hH : ∀ s : Int32, o = .inl s → Bg L xs 92 2 [(0, .int v0), (1, .int v1), (2, .int v2), (3, .int s)] [] lay h R) (hE : ∀ t : Int32, o = .inr (.inl t) → Bg L xs 92 117 [(0, .int v0), (1, .int v1), (2, .int v2), (3, .int t)] [] lay h R) (hR : ∀ r : Int32, o = .inr (.inr r) → R = ([.int r], lay, h)) (e : Jtr_firstStrangers_L2 v0 v1 v2 v3 = some o) : Bg L xs 92 2 [(0, .int v0), (1, .int v1), (2, .int v2), (3, .int v3)] [] lay h R := by
  refine seg_Bg (pc' := (if v3 < 8 then 8 else 117)) (lv' := [(0, .int v0), (1, .int v1), (2, .int v2), (3, .int v3)]) (st' := []) (lay' := lay) (h' := h) 3 rfl ?_
  refine pc_ite e (fun e => ?_) (fun e => ?_)
  · refine seg_Bg (pc' := 11) (lv' := [(0, .int v0), (1, .int v1), (2, .int v2), (3, .int v3), (4, .int v3)]) (st' := []) (lay' := lay) (h' := h) 2 rfl ?_
    obtain ⟨t5o, et5o, e⟩ := bd_s e
    refine BJtr_firstStrangers_L11 L xs v0 v1 v2 v3 lay h R (fun (t5x : (Int32) ⊕ (Int32)) => (sm t5x (fun t5 => some (.inl (v3 + 1))) (fun r5 => some (.inr (.inr r5)))) = some o) (fun t5 e => ?_) (fun r5 e => ?_) 1000000 v3 _ et5o e
    · refine seg_Bg (pc' := 2) (lv' := [(0, .int v0), (1, .int v1), (2, .int v2), (3, .int (v3 + 1)), (4, .int t5)]) (st' := []) (lay' := lay) (h' := h) 2 rfl ?_
      refine kp_Bg (lv' := [(0, .int v0), (1, .int v1), (2, .int v2), (3, .int (v3 + 1))]) rfl rfl ?_
      exact hH (v3 + 1) (Option.some.inj e).symm
    · exact hR r5 (Option.some.inj e).symm
  · exact hE v3 (Option.some.inj e).symm
theorem BJtr_firstStrangers_L2 (L : Nat) (xs : Nat → Int32) (v0 v1 v2 : Int32) (lay : Lay) (h : Hp) (R : List Value × Lay × Hp) (C : ((Int32) ⊕ (Int32)) → Prop) (hE : ∀ t : Int32, C (.inl t) → Bg L xs 92 117 [(0, .int v0), (1, .int v1), (2, .int v2), (3, .int t)] [] lay h R) (hR : ∀ r : Int32, C (.inr r) → R = ([.int r], lay, h)) (n : Nat) (s : Int32) (o : ((Int32) ⊕ (Int32))) (e : loopN n (fun s => Jtr_firstStrangers_L2 v0 v1 v2 s) s = some o) (hC : C o) : Bg L xs 92 2 [(0, .int v0), (1, .int v1), (2, .int v2), (3, .int s)] [] lay h R := by
  refine loop_B (fun s => Jtr_firstStrangers_L2 v0 v1 v2 s) (fun s : Int32 => Bg L xs 92 2 [(0, .int v0), (1, .int v1), (2, .int v2), (3, .int s)] [] lay h R) C (fun s o e => ?_) n s o e hC
  intro hK
  refine BJtr_firstStrangers_L2_s L xs v0 v1 v2 lay h R s o (fun s q => by subst q; exact hK) (fun t q => by subst q; exact hE t hK) (fun r q => by subst q; exact hR r hK) e
set_option maxRecDepth 100000 in
theorem BJtr_firstStrangers (L : Nat) (xs : Nat → Int32) (v0 : Int32) (v1 : Int32) (v2 : Int32) (lay : Lay) (h : Hp) (o : Int32) (e : Jtr_firstStrangers v0 v1 v2 = some o) : Bg L xs 92 0 [(0, .int v0), (1, .int v1), (2, .int v2)] [] lay h ([.int o], lay, h) := by
  obtain ⟨R, hR⟩ : ∃ R : List Value × Lay × Hp, R = ([.int o], lay, h) := ⟨_, rfl⟩
  rw [← hR]
  refine seg_Bg (pc' := 2) (lv' := [(0, .int v0), (1, .int v1), (2, .int v2), (3, .int 0)]) (st' := []) (lay' := lay) (h' := h) 2 rfl ?_
  obtain ⟨t6o, et6o, e⟩ := bd_s e
  refine BJtr_firstStrangers_L2 L xs v0 v1 v2 lay h R (fun (t6x : (Int32) ⊕ (Int32)) => (sm t6x (fun t6 => some (-1)) (fun r6 => some r6)) = some o) (fun t6 e => ?_) (fun r6 e => ?_) 1000000 0 _ et6o e
  · refine seg_Bg (pc' := 118) (lv' := [(0, .int v0), (1, .int v1), (2, .int v2), (3, .int t6)]) (st' := [.int (-1)]) (lay' := lay) (h' := h) 1 rfl ?_
    rw [hR, ← Option.some.inj e]; exact ret_Bg rfl
  · rw [hR]; exact congrArg (fun r => (([.int r], lay, h) : List Value × Lay × Hp)) (Option.some.inj e).symm

set_option maxRecDepth 100000 in
theorem BJtr_firstFail (L : Nat) (xs : Nat → Int32) (v0 : Int32) (v1 : Int32) (lay : Lay) (h : Hp) (o : Int32) (e : Jtr_firstFail v0 v1 = some o) : Bg L xs 85 0 [(0, .int v0), (1, .int v1)] [] lay h ([.int o], lay, h) := by
  obtain ⟨R, hR⟩ : ∃ R : List Value × Lay × Hp, R = ([.int o], lay, h) := ⟨_, rfl⟩
  rw [← hR]
  refine seg_Bg (pc' := (if v1 = 0 then 64 else if v1 = 1 then 78 else if v1 = 2 then 95 else if v1 = 3 then 100 else if v1 = 4 then 105 else if v1 = 5 then 110 else if v1 = 6 then 115 else if v1 = 7 then 120 else if v1 = 8 then 125 else if v1 = 9 then 132 else if v1 = 10 then 139 else if v1 = 11 then 146 else 153)) (lv' := [(0, .int v0), (1, .int v1)]) (st' := []) (lay' := lay) (h' := h) 2 rfl ?_
  refine pc_ite e (fun e => ?_) (fun e => ?_)
  · refine seg_Bg (pc' := 66) (lv' := [(0, .int v0), (1, .int v1)]) (st' := [.int 0, .int v0]) (lay' := lay) (h' := h) 2 rfl ?_
    refine call_Bg (a := 3) (la := [(0, .int v0), (1, .int 0)]) (np := 69) (lv' := [(0, .int v0), (1, .int v1)]) (rest := []) (res := fun r => ([.int r], lay, h)) rfl e (fun r e => BJco_tells L xs v0 0 lay h r e) (fun c1 e => ?_)
    show Bg L xs 85 69 [(0, .int v0), (1, .int v1)] [.int c1] lay h R
    refine seg_Bg (pc' := (if c1 = 0 then 72 else 76)) (lv' := [(0, .int v0), (1, .int v1)]) (st' := []) (lay' := lay) (h' := h) 1 rfl ?_
    refine pc_ite e (fun e => ?_) (fun e => ?_)
    · refine seg_Bg (pc' := 77) (lv' := [(0, .int v0), (1, .int v1)]) (st' := [.int (-1)]) (lay' := lay) (h' := h) 2 rfl ?_
      rw [hR, ← Option.some.inj e]; exact ret_Bg rfl
    · refine seg_Bg (pc' := 77) (lv' := [(0, .int v0), (1, .int v1)]) (st' := [.int 0]) (lay' := lay) (h' := h) 1 rfl ?_
      rw [hR, ← Option.some.inj e]; exact ret_Bg rfl
  · refine pc_ite e (fun e => ?_) (fun e => ?_)
    · refine seg_Bg (pc' := 81) (lv' := [(0, .int v0), (1, .int v1)]) (st' := [.int 7, .int v0]) (lay' := lay) (h' := h) 2 rfl ?_
      refine call_Bg (a := 3) (la := [(0, .int v0), (1, .int 7)]) (np := 84) (lv' := [(0, .int v0), (1, .int v1)]) (rest := []) (res := fun r => ([.int r], lay, h)) rfl e (fun r e => BJco_tells L xs v0 7 lay h r e) (fun c2 e => ?_)
      show Bg L xs 85 84 [(0, .int v0), (1, .int v1)] [.int c2] lay h R
      refine seg_Bg (pc' := (if c2 = 1 then 88 else 92)) (lv' := [(0, .int v0), (1, .int v1)]) (st' := []) (lay' := lay) (h' := h) 2 rfl ?_
      refine pc_ite e (fun e => ?_) (fun e => ?_)
      · refine seg_Bg (pc' := 94) (lv' := [(0, .int v0), (1, .int v1)]) (st' := [.int (-1)]) (lay' := lay) (h' := h) 2 rfl ?_
        rw [hR, ← Option.some.inj e]; exact ret_Bg rfl
      · refine seg_Bg (pc' := 94) (lv' := [(0, .int v0), (1, .int v1)]) (st' := [.int 7]) (lay' := lay) (h' := h) 1 rfl ?_
        rw [hR, ← Option.some.inj e]; exact ret_Bg rfl
    · refine pc_ite e (fun e => ?_) (fun e => ?_)
      · refine seg_Bg (pc' := 96) (lv' := [(0, .int v0), (1, .int v1)]) (st' := [.int v0]) (lay' := lay) (h' := h) 1 rfl ?_
        refine call_Bg (a := 86) (la := [(0, .int v0)]) (np := 99) (lv' := [(0, .int v0), (1, .int v1)]) (rest := []) (res := fun r => ([.int r], lay, h)) rfl e (fun r e => BJtr_firstFall L xs v0 lay h r e) (fun c3 e => ?_)
        show Bg L xs 85 99 [(0, .int v0), (1, .int v1)] [.int c3] lay h R
        rw [hR, ← Option.some.inj e]; exact ret_Bg rfl
      · refine pc_ite e (fun e => ?_) (fun e => ?_)
        · refine seg_Bg (pc' := 101) (lv' := [(0, .int v0), (1, .int v1)]) (st' := [.int v0]) (lay' := lay) (h' := h) 1 rfl ?_
          refine call_Bg (a := 87) (la := [(0, .int v0)]) (np := 104) (lv' := [(0, .int v0), (1, .int v1)]) (rest := []) (res := fun r => ([.int r], lay, h)) rfl e (fun r e => BJtr_firstLikeness L xs v0 lay h r e) (fun c4 e => ?_)
          show Bg L xs 85 104 [(0, .int v0), (1, .int v1)] [.int c4] lay h R
          rw [hR, ← Option.some.inj e]; exact ret_Bg rfl
        · refine pc_ite e (fun e => ?_) (fun e => ?_)
          · refine seg_Bg (pc' := 106) (lv' := [(0, .int v0), (1, .int v1)]) (st' := [.int v0]) (lay' := lay) (h' := h) 1 rfl ?_
            refine call_Bg (a := 88) (la := [(0, .int v0)]) (np := 109) (lv' := [(0, .int v0), (1, .int v1)]) (rest := []) (res := fun r => ([.int r], lay, h)) rfl e (fun r e => BJtr_firstProduct L xs v0 lay h r e) (fun c5 e => ?_)
            show Bg L xs 85 109 [(0, .int v0), (1, .int v1)] [.int c5] lay h R
            rw [hR, ← Option.some.inj e]; exact ret_Bg rfl
          · refine pc_ite e (fun e => ?_) (fun e => ?_)
            · refine seg_Bg (pc' := 111) (lv' := [(0, .int v0), (1, .int v1)]) (st' := [.int v0]) (lay' := lay) (h' := h) 1 rfl ?_
              refine call_Bg (a := 89) (la := [(0, .int v0)]) (np := 114) (lv' := [(0, .int v0), (1, .int v1)]) (rest := []) (res := fun r => ([.int r], lay, h)) rfl e (fun r e => BJtr_firstUnlikeBoth L xs v0 lay h r e) (fun c6 e => ?_)
              show Bg L xs 85 114 [(0, .int v0), (1, .int v1)] [.int c6] lay h R
              rw [hR, ← Option.some.inj e]; exact ret_Bg rfl
            · refine pc_ite e (fun e => ?_) (fun e => ?_)
              · refine seg_Bg (pc' := 116) (lv' := [(0, .int v0), (1, .int v1)]) (st' := [.int v0]) (lay' := lay) (h' := h) 1 rfl ?_
                refine call_Bg (a := 90) (la := [(0, .int v0)]) (np := 119) (lv' := [(0, .int v0), (1, .int v1)]) (rest := []) (res := fun r => ([.int r], lay, h)) rfl e (fun r e => BJtr_firstUnlikeEither L xs v0 lay h r e) (fun c7 e => ?_)
                show Bg L xs 85 119 [(0, .int v0), (1, .int v1)] [.int c7] lay h R
                rw [hR, ← Option.some.inj e]; exact ret_Bg rfl
              · refine pc_ite e (fun e => ?_) (fun e => ?_)
                · refine seg_Bg (pc' := 121) (lv' := [(0, .int v0), (1, .int v1)]) (st' := [.int v0]) (lay' := lay) (h' := h) 1 rfl ?_
                  refine call_Bg (a := 91) (la := [(0, .int v0)]) (np := 124) (lv' := [(0, .int v0), (1, .int v1)]) (rest := []) (res := fun r => ([.int r], lay, h)) rfl e (fun r e => BJtr_firstTwoVariables L xs v0 lay h r e) (fun c8 e => ?_)
                  show Bg L xs 85 124 [(0, .int v0), (1, .int v1)] [.int c8] lay h R
                  rw [hR, ← Option.some.inj e]; exact ret_Bg rfl
                · refine pc_ite e (fun e => ?_) (fun e => ?_)
                  · refine seg_Bg (pc' := 128) (lv' := [(0, .int v0), (1, .int v1)]) (st' := [.int 1, .int 1, .int v0]) (lay' := lay) (h' := h) 3 rfl ?_
                    refine call_Bg (a := 92) (la := [(0, .int v0), (1, .int 1), (2, .int 1)]) (np := 131) (lv' := [(0, .int v0), (1, .int v1)]) (rest := []) (res := fun r => ([.int r], lay, h)) rfl e (fun r e => BJtr_firstStrangers L xs v0 1 1 lay h r e) (fun c9 e => ?_)
                    show Bg L xs 85 131 [(0, .int v0), (1, .int v1)] [.int c9] lay h R
                    rw [hR, ← Option.some.inj e]; exact ret_Bg rfl
                  · refine pc_ite e (fun e => ?_) (fun e => ?_)
                    · refine seg_Bg (pc' := 135) (lv' := [(0, .int v0), (1, .int v1)]) (st' := [.int 0, .int 1, .int v0]) (lay' := lay) (h' := h) 3 rfl ?_
                      refine call_Bg (a := 92) (la := [(0, .int v0), (1, .int 1), (2, .int 0)]) (np := 138) (lv' := [(0, .int v0), (1, .int v1)]) (rest := []) (res := fun r => ([.int r], lay, h)) rfl e (fun r e => BJtr_firstStrangers L xs v0 1 0 lay h r e) (fun c10 e => ?_)
                      show Bg L xs 85 138 [(0, .int v0), (1, .int v1)] [.int c10] lay h R
                      rw [hR, ← Option.some.inj e]; exact ret_Bg rfl
                    · refine pc_ite e (fun e => ?_) (fun e => ?_)
                      · refine seg_Bg (pc' := 142) (lv' := [(0, .int v0), (1, .int v1)]) (st' := [.int 1, .int 0, .int v0]) (lay' := lay) (h' := h) 3 rfl ?_
                        refine call_Bg (a := 92) (la := [(0, .int v0), (1, .int 0), (2, .int 1)]) (np := 145) (lv' := [(0, .int v0), (1, .int v1)]) (rest := []) (res := fun r => ([.int r], lay, h)) rfl e (fun r e => BJtr_firstStrangers L xs v0 0 1 lay h r e) (fun c11 e => ?_)
                        show Bg L xs 85 145 [(0, .int v0), (1, .int v1)] [.int c11] lay h R
                        rw [hR, ← Option.some.inj e]; exact ret_Bg rfl
                      · refine pc_ite e (fun e => ?_) (fun e => ?_)
                        · refine seg_Bg (pc' := 149) (lv' := [(0, .int v0), (1, .int v1)]) (st' := [.int 0, .int 0, .int v0]) (lay' := lay) (h' := h) 3 rfl ?_
                          refine call_Bg (a := 92) (la := [(0, .int v0), (1, .int 0), (2, .int 0)]) (np := 152) (lv' := [(0, .int v0), (1, .int v1)]) (rest := []) (res := fun r => ([.int r], lay, h)) rfl e (fun r e => BJtr_firstStrangers L xs v0 0 0 lay h r e) (fun c12 e => ?_)
                          show Bg L xs 85 152 [(0, .int v0), (1, .int v1)] [.int c12] lay h R
                          rw [hR, ← Option.some.inj e]; exact ret_Bg rfl
                        · refine seg_Bg (pc' := 154) (lv' := [(0, .int v0), (1, .int v1)]) (st' := [.int (-1)]) (lay' := lay) (h' := h) 1 rfl ?_
                          rw [hR, ← Option.some.inj e]; exact ret_Bg rfl

set_option maxRecDepth 100000 in
theorem BJtr_of_L4_s (L : Nat) (xs : Nat → Int32) (v0 : Int32) (lay : Lay) (h : Hp) (R : List Value × Lay × Hp) (v1 v2 : Int32) (o : ((Int32 × Int32) ⊕ (Int32 × Int32))) (hH : ∀ s : Int32 × Int32, o = .inl s → Bg L xs 84 4 [(0, .int v0), (1, .int s.1), (2, .int s.2)] [] lay h R) (hE : ∀ t : Int32 × Int32, o = .inr t → Bg L xs 84 31 [(0, .int v0), (1, .int t.1), (2, .int t.2)] [] lay h R) (e : Jtr_of_L4 v0 v1 v2 = some o) : Bg L xs 84 4 [(0, .int v0), (1, .int v1), (2, .int v2)] [] lay h R := by
  refine seg_Bg (pc' := (if v2 < 12 then 10 else 31)) (lv' := [(0, .int v0), (1, .int v1), (2, .int v2)]) (st' := []) (lay' := lay) (h' := h) 3 rfl ?_
  refine pc_ite e (fun e => ?_) (fun e => ?_)
  · refine seg_Bg (pc' := 12) (lv' := [(0, .int v0), (1, .int v1), (2, .int v2)]) (st' := [.int v2, .int v0]) (lay' := lay) (h' := h) 2 rfl ?_
    refine call_Bg (a := 85) (la := [(0, .int v0), (1, .int v2)]) (np := 15) (lv' := [(0, .int v0), (1, .int v1), (2, .int v2)]) (rest := []) (res := fun r => ([.int r], lay, h)) rfl e (fun r e => BJtr_firstFail L xs v0 v2 lay h r e) (fun c1 e => ?_)
    show Bg L xs 84 15 [(0, .int v0), (1, .int v1), (2, .int v2)] [.int c1] lay h R
    refine seg_Bg (pc' := (if c1 = (-1) then 19 else 25)) (lv' := [(0, .int v0), (1, .int v1), (2, .int v2)]) (st' := []) (lay' := lay) (h' := h) 2 rfl ?_
    refine pc_ite e (fun e => ?_) (fun e => ?_)
    · refine seg_Bg (pc' := 4) (lv' := [(0, .int v0), (1, .int (v1 ||| ((1 : Int32) <<< (v2 &&& 31) : Int32))), (2, .int (v2 + 1))]) (st' := []) (lay' := lay) (h' := h) 8 rfl ?_
      exact hH (v1 ||| ((1 : Int32) <<< (v2 &&& 31) : Int32), v2 + 1) (Option.some.inj e).symm
    · refine seg_Bg (pc' := 4) (lv' := [(0, .int v0), (1, .int v1), (2, .int (v2 + 1))]) (st' := []) (lay' := lay) (h' := h) 2 rfl ?_
      exact hH (v1, v2 + 1) (Option.some.inj e).symm
  · exact hE (v1, v2) (Option.some.inj e).symm
theorem BJtr_of_L4 (L : Nat) (xs : Nat → Int32) (v0 : Int32) (lay : Lay) (h : Hp) (R : List Value × Lay × Hp) (C : (Int32 × Int32) → Prop) (hE : ∀ t : Int32 × Int32, C t → Bg L xs 84 31 [(0, .int v0), (1, .int t.1), (2, .int t.2)] [] lay h R) (n : Nat) (s : Int32 × Int32) (o : (Int32 × Int32)) (e : loopN n (fun s => Jtr_of_L4 v0 s.1 s.2) s = some o) (hC : C o) : Bg L xs 84 4 [(0, .int v0), (1, .int s.1), (2, .int s.2)] [] lay h R := by
  refine loop_B (fun s => Jtr_of_L4 v0 s.1 s.2) (fun s : Int32 × Int32 => Bg L xs 84 4 [(0, .int v0), (1, .int s.1), (2, .int s.2)] [] lay h R) C (fun s o e => ?_) n s o e hC
  intro hK
  refine BJtr_of_L4_s L xs v0 lay h R s.1 s.2 o (fun s q => by subst q; exact hK) (fun t q => by subst q; exact hE t hK) e
set_option maxRecDepth 100000 in
theorem BJtr_of (L : Nat) (xs : Nat → Int32) (v0 : Int32) (lay : Lay) (h : Hp) (o : Int32) (e : Jtr_of v0 = some o) : Bg L xs 84 0 [(0, .int v0)] [] lay h ([.int o], lay, h) := by
  obtain ⟨R, hR⟩ : ∃ R : List Value × Lay × Hp, R = ([.int o], lay, h) := ⟨_, rfl⟩
  rw [← hR]
  refine seg_Bg (pc' := 4) (lv' := [(0, .int v0), (1, .int 0), (2, .int 0)]) (st' := []) (lay' := lay) (h' := h) 4 rfl ?_
  obtain ⟨t2o, et2o, e⟩ := bd_s e
  refine BJtr_of_L4 L xs v0 lay h R (fun (t2 : Int32 × Int32) => (some t2.1) = some o) (fun t2 e => ?_) 1000000 (0, 0) _ et2o e
  refine seg_Bg (pc' := 32) (lv' := [(0, .int v0), (1, .int t2.1), (2, .int t2.2)]) (st' := [.int t2.1]) (lay' := lay) (h' := h) 1 rfl ?_
  rw [hR, ← Option.some.inj e]; exact ret_Bg rfl

set_option maxRecDepth 100000 in
theorem BJpl_findSets_L2_s (L : Nat) (xs : Nat → Int32) (R : List Value × Lay × Hp) (v1 : Int32) (h : Hp) (o : ((Int32 × Hp) ⊕ (Int32 × Hp))) (hH : ∀ s : Int32 × Hp, o = .inl s → Bg L xs 56 2 [(0, .ref 4), (1, .int s.1)] [] LY11 s.2 R) (hE : ∀ t : Int32 × Hp, o = .inr t → Bg L xs 56 22 [(0, .ref 4), (1, .int t.1)] [] LY11 t.2 R) (e : Jpl_findSets_L2 v1 h = some o) : Bg L xs 56 2 [(0, .ref 4), (1, .int v1)] [] LY11 h R := by
  refine seg_Bg (pc' := (if v1 < 4096 then 9 else 22)) (lv' := [(0, .ref 4), (1, .int v1)]) (st' := []) (lay' := LY11) (h' := h) 3 rfl ?_
  refine pc_ite e (fun e => ?_) (fun e => ?_)
  · refine seg_Bg (pc' := 15) (lv' := [(0, .ref 4), (1, .int v1)]) (st' := [.int (-1), .int v1, .ref 8]) (lay' := LY11) (h' := h) 4 rfl ?_
    refine gp_Bg (pc' := 16) (lv' := [(0, .ref 4), (1, .int v1)]) (st' := []) (lay' := LY11) (x := hset h 8 (Int32.toNatClampNeg v1) (-1)) (g := ibB v1 4096) rfl e fun h1 e => ?_
    refine seg_Bg (pc' := 2) (lv' := [(0, .ref 4), (1, .int (v1 + 1))]) (st' := []) (lay' := LY11) (h' := h1) 2 rfl ?_
    exact hH (v1 + 1, h1) (Option.some.inj e).symm
  · exact hE (v1, h) (Option.some.inj e).symm
theorem BJpl_findSets_L2 (L : Nat) (xs : Nat → Int32) (R : List Value × Lay × Hp) (C : (Int32 × Hp) → Prop) (hE : ∀ t : Int32 × Hp, C t → Bg L xs 56 22 [(0, .ref 4), (1, .int t.1)] [] LY11 t.2 R) (n : Nat) (s : Int32 × Hp) (o : (Int32 × Hp)) (e : loopN n (fun s => Jpl_findSets_L2 s.1 s.2) s = some o) (hC : C o) : Bg L xs 56 2 [(0, .ref 4), (1, .int s.1)] [] LY11 s.2 R := by
  refine loop_B (fun s => Jpl_findSets_L2 s.1 s.2) (fun s : Int32 × Hp => Bg L xs 56 2 [(0, .ref 4), (1, .int s.1)] [] LY11 s.2 R) C (fun s o e => ?_) n s o e hC
  intro hK
  refine BJpl_findSets_L2_s L xs R s.1 s.2 o (fun s q => by subst q; exact hK) (fun t q => by subst q; exact hE t hK) e
set_option maxRecDepth 100000 in
theorem BJpl_findSets_L70_s (L : Nat) (xs : Nat → Int32) (v2 v3 : Int32) (R : List Value × Lay × Hp) (v1 v4 : Int32) (h : Hp) (o : ((Int32 × Int32 × Hp) ⊕ (Int32 × Int32 × Hp))) (hH : ∀ s : Int32 × Int32 × Hp, o = .inl s → Bg L xs 56 70 [(0, .ref 4), (1, .int s.1), (2, .int v2), (3, .int v3), (4, .int s.2.1)] [] LY11 s.2.2 R) (hE : ∀ t : Int32 × Int32 × Hp, o = .inr t → Bg L xs 56 139 [(0, .ref 4), (1, .int t.1), (2, .int v2), (3, .int v3), (4, .int t.2.1)] [] LY11 t.2.2 R) (e : Jpl_findSets_L70 v2 v3 v1 v4 h = some o) : Bg L xs 56 70 [(0, .ref 4), (1, .int v1), (2, .int v2), (3, .int v3), (4, .int v4)] [] LY11 h R := by
  refine seg_Bg (pc' := (if v4 < 256 then 78 else 139)) (lv' := [(0, .ref 4), (1, .int v1), (2, .int v2), (3, .int v3), (4, .int v4)]) (st' := []) (lay' := LY11) (h' := h) 3 rfl ?_
  refine pc_ite e (fun e => ?_) (fun e => ?_)
  · refine seg_Bg (pc' := 85) (lv' := [(0, .ref 4), (1, .int v1), (2, .int v2), (3, .int v3), (4, .int v4)]) (st' := [.int v4, .ref 5, .int v3]) (lay' := LY11) (h' := h) 4 rfl ?_
    refine gd_Bg (pc' := 86) (lv' := [(0, .ref 4), (1, .int v1), (2, .int v2), (3, .int v3), (4, .int v4)]) (st' := [.int (h 5 (Int32.toNatClampNeg v4)), .int v3]) (lay' := LY11) (h' := h) (g := ibB v4 256) rfl e fun e => ?_
    refine seg_Bg (pc' := 95) (lv' := [(0, .ref 4), (1, .int v1), (2, .int v2), (3, .int v3), (4, .int v4), (5, .int (v3 &&& (h 5 (Int32.toNatClampNeg v4))))]) (st' := [.int (v3 &&& (h 5 (Int32.toNatClampNeg v4))), .ref 8]) (lay' := LY11) (h' := h) 5 rfl ?_
    refine gd_Bg (pc' := 96) (lv' := [(0, .ref 4), (1, .int v1), (2, .int v2), (3, .int v3), (4, .int v4), (5, .int (v3 &&& (h 5 (Int32.toNatClampNeg v4))))]) (st' := [.int (h 8 (Int32.toNatClampNeg (v3 &&& (h 5 (Int32.toNatClampNeg v4)))))]) (lay' := LY11) (h' := h) (g := ibB (v3 &&& (h 5 (Int32.toNatClampNeg v4))) 4096) rfl e fun e => ?_
    refine seg_Bg (pc' := (if (h 8 (Int32.toNatClampNeg (v3 &&& (h 5 (Int32.toNatClampNeg v4))))) = (-1) then 100 else 133)) (lv' := [(0, .ref 4), (1, .int v1), (2, .int v2), (3, .int v3), (4, .int v4), (5, .int (v3 &&& (h 5 (Int32.toNatClampNeg v4))))]) (st' := []) (lay' := LY11) (h' := h) 2 rfl ?_
    refine pc_ite e (fun e => ?_) (fun e => ?_)
    · refine seg_Bg (pc' := (if v1 < 4096 then 107 else 133)) (lv' := [(0, .ref 4), (1, .int v1), (2, .int v2), (3, .int v3), (4, .int v4), (5, .int (v3 &&& (h 5 (Int32.toNatClampNeg v4))))]) (st' := []) (lay' := LY11) (h' := h) 3 rfl ?_
      refine pc_ite e (fun e => ?_) (fun e => ?_)
      · refine seg_Bg (pc' := 118) (lv' := [(0, .ref 4), (1, .int v1), (2, .int v2), (3, .int v3), (4, .int v4), (5, .int (v3 &&& (h 5 (Int32.toNatClampNeg v4))))]) (st' := [.int v3, .ref 8, .int (v3 &&& (h 5 (Int32.toNatClampNeg v4))), .ref 8]) (lay' := LY11) (h' := h) 6 rfl ?_
        refine gd_Bg (pc' := 119) (lv' := [(0, .ref 4), (1, .int v1), (2, .int v2), (3, .int v3), (4, .int v4), (5, .int (v3 &&& (h 5 (Int32.toNatClampNeg v4))))]) (st' := [.int (h 8 (Int32.toNatClampNeg v3)), .int (v3 &&& (h 5 (Int32.toNatClampNeg v4))), .ref 8]) (lay' := LY11) (h' := h) (g := ibB v3 4096) rfl e fun e => ?_
        refine seg_Bg (pc' := 121) (lv' := [(0, .ref 4), (1, .int v1), (2, .int v2), (3, .int v3), (4, .int v4), (5, .int (v3 &&& (h 5 (Int32.toNatClampNeg v4))))]) (st' := [.int ((h 8 (Int32.toNatClampNeg v3)) + (1 : Int32)), .int (v3 &&& (h 5 (Int32.toNatClampNeg v4))), .ref 8]) (lay' := LY11) (h' := h) 2 rfl ?_
        refine gp_Bg (pc' := 122) (lv' := [(0, .ref 4), (1, .int v1), (2, .int v2), (3, .int v3), (4, .int v4), (5, .int (v3 &&& (h 5 (Int32.toNatClampNeg v4))))]) (st' := []) (lay' := LY11) (x := hset h 8 (Int32.toNatClampNeg (v3 &&& (h 5 (Int32.toNatClampNeg v4)))) ((h 8 (Int32.toNatClampNeg v3)) + (1 : Int32))) (g := ibB (v3 &&& (h 5 (Int32.toNatClampNeg v4))) 4096) rfl e fun h5 e => ?_
        refine seg_Bg (pc' := 129) (lv' := [(0, .ref 4), (1, .int v1), (2, .int v2), (3, .int v3), (4, .int v4), (5, .int (v3 &&& (h 5 (Int32.toNatClampNeg v4))))]) (st' := [.int (v3 &&& (h 5 (Int32.toNatClampNeg v4))), .int v1, .ref 6]) (lay' := LY11) (h' := h5) 4 rfl ?_
        refine gp_Bg (pc' := 130) (lv' := [(0, .ref 4), (1, .int v1), (2, .int v2), (3, .int v3), (4, .int v4), (5, .int (v3 &&& (h 5 (Int32.toNatClampNeg v4))))]) (st' := []) (lay' := LY11) (x := hset h5 6 (Int32.toNatClampNeg v1) (v3 &&& (h 5 (Int32.toNatClampNeg v4)))) (g := ibB v1 4096) rfl e fun h6 e => ?_
        refine seg_Bg (pc' := 70) (lv' := [(0, .ref 4), (1, .int (v1 + 1)), (2, .int v2), (3, .int v3), (4, .int (v4 + 1)), (5, .int (v3 &&& (h 5 (Int32.toNatClampNeg v4))))]) (st' := []) (lay' := LY11) (h' := h6) 3 rfl ?_
        refine kp_Bg (lv' := [(0, .ref 4), (1, .int (v1 + 1)), (2, .int v2), (3, .int v3), (4, .int (v4 + 1))]) rfl rfl ?_
        exact hH (v1 + 1, v4 + 1, h6) (Option.some.inj e).symm
      · refine seg_Bg (pc' := 70) (lv' := [(0, .ref 4), (1, .int v1), (2, .int v2), (3, .int v3), (4, .int (v4 + 1)), (5, .int (v3 &&& (h 5 (Int32.toNatClampNeg v4))))]) (st' := []) (lay' := LY11) (h' := h) 2 rfl ?_
        refine kp_Bg (lv' := [(0, .ref 4), (1, .int v1), (2, .int v2), (3, .int v3), (4, .int (v4 + 1))]) rfl rfl ?_
        exact hH (v1, v4 + 1, h) (Option.some.inj e).symm
    · refine seg_Bg (pc' := 70) (lv' := [(0, .ref 4), (1, .int v1), (2, .int v2), (3, .int v3), (4, .int (v4 + 1)), (5, .int (v3 &&& (h 5 (Int32.toNatClampNeg v4))))]) (st' := []) (lay' := LY11) (h' := h) 2 rfl ?_
      refine kp_Bg (lv' := [(0, .ref 4), (1, .int v1), (2, .int v2), (3, .int v3), (4, .int (v4 + 1))]) rfl rfl ?_
      exact hH (v1, v4 + 1, h) (Option.some.inj e).symm
  · exact hE (v1, v4, h) (Option.some.inj e).symm
theorem BJpl_findSets_L70 (L : Nat) (xs : Nat → Int32) (v2 v3 : Int32) (R : List Value × Lay × Hp) (C : (Int32 × Int32 × Hp) → Prop) (hE : ∀ t : Int32 × Int32 × Hp, C t → Bg L xs 56 139 [(0, .ref 4), (1, .int t.1), (2, .int v2), (3, .int v3), (4, .int t.2.1)] [] LY11 t.2.2 R) (n : Nat) (s : Int32 × Int32 × Hp) (o : (Int32 × Int32 × Hp)) (e : loopN n (fun s => Jpl_findSets_L70 v2 v3 s.1 s.2.1 s.2.2) s = some o) (hC : C o) : Bg L xs 56 70 [(0, .ref 4), (1, .int s.1), (2, .int v2), (3, .int v3), (4, .int s.2.1)] [] LY11 s.2.2 R := by
  refine loop_B (fun s => Jpl_findSets_L70 v2 v3 s.1 s.2.1 s.2.2) (fun s : Int32 × Int32 × Hp => Bg L xs 56 70 [(0, .ref 4), (1, .int s.1), (2, .int v2), (3, .int v3), (4, .int s.2.1)] [] LY11 s.2.2 R) C (fun s o e => ?_) n s o e hC
  intro hK
  refine BJpl_findSets_L70_s L xs v2 v3 R s.1 s.2.1 s.2.2 o (fun s q => by subst q; exact hK) (fun t q => by subst q; exact hE t hK) e
set_option maxRecDepth 100000 in
theorem BJpl_findSets_L44_s (L : Nat) (xs : Nat → Int32) (R : List Value × Lay × Hp) (v1 v2 : Int32) (h : Hp) (o : ((Int32 × Int32 × Hp) ⊕ (Int32 × Int32 × Hp))) (hH : ∀ s : Int32 × Int32 × Hp, o = .inl s → Bg L xs 56 44 [(0, .ref 4), (1, .int s.1), (2, .int s.2.1)] [] LY11 s.2.2 R) (hE : ∀ t : Int32 × Int32 × Hp, o = .inr t → Bg L xs 56 145 [(0, .ref 4), (1, .int t.1), (2, .int t.2.1)] [] LY11 t.2.2 R) (e : Jpl_findSets_L44 v1 v2 h = some o) : Bg L xs 56 44 [(0, .ref 4), (1, .int v1), (2, .int v2)] [] LY11 h R := by
  refine seg_Bg (pc' := (if v2 < v1 then 49 else 145)) (lv' := [(0, .ref 4), (1, .int v1), (2, .int v2)]) (st' := []) (lay' := LY11) (h' := h) 3 rfl ?_
  refine pc_ite e (fun e => ?_) (fun e => ?_)
  · refine seg_Bg (pc' := (if v2 < 4096 then 56 else 145)) (lv' := [(0, .ref 4), (1, .int v1), (2, .int v2)]) (st' := []) (lay' := LY11) (h' := h) 3 rfl ?_
    refine pc_ite e (fun e => ?_) (fun e => ?_)
    · refine seg_Bg (pc' := 61) (lv' := [(0, .ref 4), (1, .int v1), (2, .int v2)]) (st' := [.int v2, .ref 6]) (lay' := LY11) (h' := h) 3 rfl ?_
      refine gd_Bg (pc' := 62) (lv' := [(0, .ref 4), (1, .int v1), (2, .int v2)]) (st' := [.int (h 6 (Int32.toNatClampNeg v2))]) (lay' := LY11) (h' := h) (g := ibB v2 4096) rfl e fun e => ?_
      refine seg_Bg (pc' := 70) (lv' := [(0, .ref 4), (1, .int v1), (2, .int v2), (3, .int ((h 6 (Int32.toNatClampNeg v2)) &&& (4095 : Int32))), (4, .int 0)]) (st' := []) (lay' := LY11) (h' := h) 5 rfl ?_
      obtain ⟨t7o, et7o, e⟩ := bd_s e
      refine BJpl_findSets_L70 L xs v2 ((h 6 (Int32.toNatClampNeg v2)) &&& (4095 : Int32)) R (fun (t7 : Int32 × Int32 × Hp) => (some (.inl (t7.1, v2 + 1, t7.2.2))) = some o) (fun t7 e => ?_) 1000000 (v1, 0, h) _ et7o e
      refine seg_Bg (pc' := 44) (lv' := [(0, .ref 4), (1, .int t7.1), (2, .int (v2 + 1)), (3, .int ((h 6 (Int32.toNatClampNeg v2)) &&& (4095 : Int32))), (4, .int t7.2.1)]) (st' := []) (lay' := LY11) (h' := t7.2.2) 2 rfl ?_
      refine kp_Bg (lv' := [(0, .ref 4), (1, .int t7.1), (2, .int (v2 + 1))]) rfl rfl ?_
      exact hH (t7.1, v2 + 1, t7.2.2) (Option.some.inj e).symm
    · exact hE (v1, v2, h) (Option.some.inj e).symm
  · exact hE (v1, v2, h) (Option.some.inj e).symm
theorem BJpl_findSets_L44 (L : Nat) (xs : Nat → Int32) (R : List Value × Lay × Hp) (C : (Int32 × Int32 × Hp) → Prop) (hE : ∀ t : Int32 × Int32 × Hp, C t → Bg L xs 56 145 [(0, .ref 4), (1, .int t.1), (2, .int t.2.1)] [] LY11 t.2.2 R) (n : Nat) (s : Int32 × Int32 × Hp) (o : (Int32 × Int32 × Hp)) (e : loopN n (fun s => Jpl_findSets_L44 s.1 s.2.1 s.2.2) s = some o) (hC : C o) : Bg L xs 56 44 [(0, .ref 4), (1, .int s.1), (2, .int s.2.1)] [] LY11 s.2.2 R := by
  refine loop_B (fun s => Jpl_findSets_L44 s.1 s.2.1 s.2.2) (fun s : Int32 × Int32 × Hp => Bg L xs 56 44 [(0, .ref 4), (1, .int s.1), (2, .int s.2.1)] [] LY11 s.2.2 R) C (fun s o e => ?_) n s o e hC
  intro hK
  refine BJpl_findSets_L44_s L xs R s.1 s.2.1 s.2.2 o (fun s q => by subst q; exact hK) (fun t q => by subst q; exact hE t hK) e
set_option maxRecDepth 100000 in
theorem BJpl_findSets (L : Nat) (xs : Nat → Int32) (h : Hp) (o : Hp) (e : Jpl_findSets h = some o) : Bg L xs 56 0 [(0, .ref 4)] [] LY11 h ([], LY11, o) := by
  obtain ⟨R, hR⟩ : ∃ R : List Value × Lay × Hp, R = ([], LY11, o) := ⟨_, rfl⟩
  rw [← hR]
  refine seg_Bg (pc' := 2) (lv' := [(0, .ref 4), (1, .int 0)]) (st' := []) (lay' := LY11) (h' := h) 2 rfl ?_
  obtain ⟨t2o, et2o, e⟩ := bd_s e
  refine BJpl_findSets_L2 L xs R (fun (t2 : Int32 × Hp) => (lt (hset t2.2 8 4095 0) fun h3 => lt (hset h3 6 0 4095) fun h4 => bd (loopN 1000000 (fun s => Jpl_findSets_L44 s.1 s.2.1 s.2.2) (1, 0, h4)) fun (t8 : Int32 × Int32 × Hp) => some t8.2.2) = some o) (fun t2 e => ?_) 1000000 (0, h) _ et2o e
  refine seg_Bg (pc' := 30) (lv' := [(0, .ref 4), (1, .int t2.1)]) (st' := [.int 0, .int 4095, .ref 8]) (lay' := LY11) (h' := t2.2) 4 rfl ?_
  refine put_Bg (pc' := 31) (lv' := [(0, .ref 4), (1, .int t2.1)]) (st' := []) (lay' := LY11) (x := hset t2.2 8 4095 0) rfl e fun h3 e => ?_
  refine seg_Bg (pc' := 39) (lv' := [(0, .ref 4), (1, .int t2.1)]) (st' := [.int 4095, .int 0, .ref 6]) (lay' := LY11) (h' := h3) 4 rfl ?_
  refine put_Bg (pc' := 40) (lv' := [(0, .ref 4), (1, .int t2.1)]) (st' := []) (lay' := LY11) (x := hset h3 6 0 4095) rfl e fun h4 e => ?_
  refine seg_Bg (pc' := 44) (lv' := [(0, .ref 4), (1, .int 1), (2, .int 0)]) (st' := []) (lay' := LY11) (h' := h4) 4 rfl ?_
  obtain ⟨t8o, et8o, e⟩ := bd_s e
  refine BJpl_findSets_L44 L xs R (fun (t8 : Int32 × Int32 × Hp) => (some t8.2.2) = some o) (fun t8 e => ?_) 1000000 (1, 0, h4) _ et8o e
  rw [hR, ← Option.some.inj e]; exact ret_Bg rfl

set_option maxRecDepth 100000 in
theorem BJpl_numberSets_L2_s (L : Nat) (xs : Nat → Int32) (R : List Value × Lay × Hp) (v1 : Int32) (h : Hp) (o : ((Int32 × Hp) ⊕ (Int32 × Hp))) (hH : ∀ s : Int32 × Hp, o = .inl s → Bg L xs 57 2 [(0, .ref 4), (1, .int s.1)] [] LY11 s.2 R) (hE : ∀ t : Int32 × Hp, o = .inr t → Bg L xs 57 72 [(0, .ref 4), (1, .int t.1)] [] LY11 t.2 R) (e : Jpl_numberSets_L2 v1 h = some o) : Bg L xs 57 2 [(0, .ref 4), (1, .int v1)] [] LY11 h R := by
  refine seg_Bg (pc' := (if v1 < 4096 then 9 else 72)) (lv' := [(0, .ref 4), (1, .int v1)]) (st' := []) (lay' := LY11) (h' := h) 3 rfl ?_
  refine pc_ite e (fun e => ?_) (fun e => ?_)
  · refine seg_Bg (pc' := 15) (lv' := [(0, .ref 4), (1, .int v1)]) (st' := [.int (-1), .int v1, .ref 7]) (lay' := LY11) (h' := h) 4 rfl ?_
    refine gp_Bg (pc' := 16) (lv' := [(0, .ref 4), (1, .int v1)]) (st' := []) (lay' := LY11) (x := hset h 7 (Int32.toNatClampNeg v1) (-1)) (g := ibB v1 4096) rfl e fun h1 e => ?_
    refine seg_Bg (pc' := 21) (lv' := [(0, .ref 4), (1, .int v1)]) (st' := [.int v1, .ref 8]) (lay' := LY11) (h' := h1) 3 rfl ?_
    refine gd_Bg (pc' := 22) (lv' := [(0, .ref 4), (1, .int v1)]) (st' := [.int (h1 8 (Int32.toNatClampNeg v1))]) (lay' := LY11) (h' := h1) (g := ibB v1 4096) rfl e fun e => ?_
    refine seg_Bg (pc' := (if (h1 8 (Int32.toNatClampNeg v1)) = (-1) then 66 else 26)) (lv' := [(0, .ref 4), (1, .int v1)]) (st' := []) (lay' := LY11) (h' := h1) 2 rfl ?_
    refine pc_ite e (fun e => ?_) (fun e => ?_)
    · refine seg_Bg (pc' := 2) (lv' := [(0, .ref 4), (1, .int (v1 + 1))]) (st' := []) (lay' := LY11) (h' := h1) 2 rfl ?_
      exact hH (v1 + 1, h1) (Option.some.inj e).symm
    · refine seg_Bg (pc' := (if (h1 4 4) < 4096 then 36 else 66)) (lv' := [(0, .ref 4), (1, .int v1)]) (st' := []) (lay' := LY11) (h' := h1) 4 rfl ?_
      refine pc_ite e (fun e => ?_) (fun e => ?_)
      · refine seg_Bg (pc' := 45) (lv' := [(0, .ref 4), (1, .int v1)]) (st' := [.int (h1 4 4), .int v1, .ref 7]) (lay' := LY11) (h' := h1) 5 rfl ?_
        refine gp_Bg (pc' := 46) (lv' := [(0, .ref 4), (1, .int v1)]) (st' := []) (lay' := LY11) (x := hset h1 7 (Int32.toNatClampNeg v1) (h1 4 4)) (g := ibB v1 4096) rfl e fun h2 e => ?_
        refine seg_Bg (pc' := 55) (lv' := [(0, .ref 4), (1, .int v1)]) (st' := [.int v1, .int (h2 4 4), .ref 6]) (lay' := LY11) (h' := h2) 5 rfl ?_
        refine gp_Bg (pc' := 56) (lv' := [(0, .ref 4), (1, .int v1)]) (st' := []) (lay' := LY11) (x := hset h2 6 (Int32.toNatClampNeg (h2 4 4)) v1) (g := ibB (h2 4 4) 4096) rfl e fun h3 e => ?_
        refine seg_Bg (pc' := 63) (lv' := [(0, .ref 4), (1, .int v1)]) (st' := [.int ((h3 4 4) + (1 : Int32)), .ref 4]) (lay' := LY11) (h' := h3) 5 rfl ?_
        refine put_Bg (pc' := 66) (lv' := [(0, .ref 4), (1, .int v1)]) (st' := []) (lay' := LY11) (x := hset h3 4 4 ((h3 4 4) + (1 : Int32))) rfl e fun h4 e => ?_
        refine seg_Bg (pc' := 2) (lv' := [(0, .ref 4), (1, .int (v1 + 1))]) (st' := []) (lay' := LY11) (h' := h4) 2 rfl ?_
        exact hH (v1 + 1, h4) (Option.some.inj e).symm
      · refine seg_Bg (pc' := 2) (lv' := [(0, .ref 4), (1, .int (v1 + 1))]) (st' := []) (lay' := LY11) (h' := h1) 2 rfl ?_
        exact hH (v1 + 1, h1) (Option.some.inj e).symm
  · exact hE (v1, h) (Option.some.inj e).symm
theorem BJpl_numberSets_L2 (L : Nat) (xs : Nat → Int32) (R : List Value × Lay × Hp) (C : (Int32 × Hp) → Prop) (hE : ∀ t : Int32 × Hp, C t → Bg L xs 57 72 [(0, .ref 4), (1, .int t.1)] [] LY11 t.2 R) (n : Nat) (s : Int32 × Hp) (o : (Int32 × Hp)) (e : loopN n (fun s => Jpl_numberSets_L2 s.1 s.2) s = some o) (hC : C o) : Bg L xs 57 2 [(0, .ref 4), (1, .int s.1)] [] LY11 s.2 R := by
  refine loop_B (fun s => Jpl_numberSets_L2 s.1 s.2) (fun s : Int32 × Hp => Bg L xs 57 2 [(0, .ref 4), (1, .int s.1)] [] LY11 s.2 R) C (fun s o e => ?_) n s o e hC
  intro hK
  refine BJpl_numberSets_L2_s L xs R s.1 s.2 o (fun s q => by subst q; exact hK) (fun t q => by subst q; exact hE t hK) e
set_option maxRecDepth 100000 in
theorem BJpl_numberSets (L : Nat) (xs : Nat → Int32) (h : Hp) (o : Hp) (e : Jpl_numberSets h = some o) : Bg L xs 57 0 [(0, .ref 4)] [] LY11 h ([], LY11, o) := by
  obtain ⟨R, hR⟩ : ∃ R : List Value × Lay × Hp, R = ([], LY11, o) := ⟨_, rfl⟩
  rw [← hR]
  refine seg_Bg (pc' := 2) (lv' := [(0, .ref 4), (1, .int 0)]) (st' := []) (lay' := LY11) (h' := h) 2 rfl ?_
  obtain ⟨t5o, et5o, e⟩ := bd_s e
  refine BJpl_numberSets_L2 L xs R (fun (t5 : Int32 × Hp) => (some t5.2) = some o) (fun t5 e => ?_) 1000000 (0, h) _ et5o e
  rw [hR, ← Option.some.inj e]; exact ret_Bg rfl

set_option maxRecDepth 100000 in
theorem BJpl_init_L47_s (L : Nat) (xs : Nat → Int32) (R : List Value × Lay × Hp) (v1 : Int32) (h : Hp) (o : ((Int32 × Hp) ⊕ (Int32 × Hp))) (hH : ∀ s : Int32 × Hp, o = .inl s → Bg L xs 55 47 [(0, .ref 4), (1, .int s.1)] [] LY11 s.2 R) (hE : ∀ t : Int32 × Hp, o = .inr t → Bg L xs 55 70 [(0, .ref 4), (1, .int t.1)] [] LY11 t.2 R) (e : Jpl_init_L47 v1 h = some o) : Bg L xs 55 47 [(0, .ref 4), (1, .int v1)] [] LY11 h R := by
  refine seg_Bg (pc' := (if v1 < 256 then 54 else 70)) (lv' := [(0, .ref 4), (1, .int v1)]) (st' := []) (lay' := LY11) (h' := h) 3 rfl ?_
  refine pc_ite e (fun e => ?_) (fun e => ?_)
  · refine seg_Bg (pc' := 60) (lv' := [(0, .ref 4), (1, .int v1)]) (st' := [.int v1, .int v1, .ref 5]) (lay' := LY11) (h' := h) 4 rfl ?_
    refine call_Bg (a := 84) (la := [(0, .int v1)]) (np := 63) (lv' := [(0, .ref 4), (1, .int v1)]) (rest := [.int v1, .ref 5]) (res := fun r => ([.int r], LY11, h)) rfl e (fun r e => BJtr_of L xs v1 LY11 h r e) (fun c6 e => ?_)
    show Bg L xs 55 63 [(0, .ref 4), (1, .int v1)] [.int c6, .int v1, .ref 5] LY11 h R
    refine gp_Bg (pc' := 64) (lv' := [(0, .ref 4), (1, .int v1)]) (st' := []) (lay' := LY11) (x := hset h 5 (Int32.toNatClampNeg v1) c6) (g := ibB v1 256) rfl e fun h7 e => ?_
    refine seg_Bg (pc' := 47) (lv' := [(0, .ref 4), (1, .int (v1 + 1))]) (st' := []) (lay' := LY11) (h' := h7) 2 rfl ?_
    exact hH (v1 + 1, h7) (Option.some.inj e).symm
  · exact hE (v1, h) (Option.some.inj e).symm
theorem BJpl_init_L47 (L : Nat) (xs : Nat → Int32) (R : List Value × Lay × Hp) (C : (Int32 × Hp) → Prop) (hE : ∀ t : Int32 × Hp, C t → Bg L xs 55 70 [(0, .ref 4), (1, .int t.1)] [] LY11 t.2 R) (n : Nat) (s : Int32 × Hp) (o : (Int32 × Hp)) (e : loopN n (fun s => Jpl_init_L47 s.1 s.2) s = some o) (hC : C o) : Bg L xs 55 47 [(0, .ref 4), (1, .int s.1)] [] LY11 s.2 R := by
  refine loop_B (fun s => Jpl_init_L47 s.1 s.2) (fun s : Int32 × Hp => Bg L xs 55 47 [(0, .ref 4), (1, .int s.1)] [] LY11 s.2 R) C (fun s o e => ?_) n s o e hC
  intro hK
  refine BJpl_init_L47_s L xs R s.1 s.2 o (fun s q => by subst q; exact hK) (fun t q => by subst q; exact hE t hK) e
set_option maxRecDepth 100000 in
theorem BJpl_init (L : Nat) (xs : Nat → Int32) (h : Hp) (o : Hp) (e : Jpl_init h = some o) : Bg L xs 55 0 [(0, .ref 4)] [] LY7 h ([], LY11, o) := by
  obtain ⟨R, hR⟩ : ∃ R : List Value × Lay × Hp, R = ([], LY11, o) := ⟨_, rfl⟩
  rw [← hR]
  refine seg_Bg (pc' := 8) (lv' := [(0, .ref 4)]) (st' := [.int 256, .ref 4]) (lay' := LY7) (h' := h) 4 rfl ?_
  refine put_Bg (pc' := 10) (lv' := [(0, .ref 4)]) (st' := [.ref 5, .ref 4]) (lay' := LY15) (x := hnew h 5) rfl e fun h1 e => ?_
  refine seg_Bg (pc' := 17) (lv' := [(0, .ref 4)]) (st' := [.int 4096, .ref 4]) (lay' := LY8) (h' := h1) 3 rfl ?_
  refine put_Bg (pc' := 19) (lv' := [(0, .ref 4)]) (st' := [.ref 6, .ref 4]) (lay' := LY14) (x := hnew h1 6) rfl e fun h2 e => ?_
  refine seg_Bg (pc' := 26) (lv' := [(0, .ref 4)]) (st' := [.int 4096, .ref 4]) (lay' := LY9) (h' := h2) 3 rfl ?_
  refine put_Bg (pc' := 28) (lv' := [(0, .ref 4)]) (st' := [.ref 7, .ref 4]) (lay' := LY13) (x := hnew h2 7) rfl e fun h3 e => ?_
  refine seg_Bg (pc' := 35) (lv' := [(0, .ref 4)]) (st' := [.int 4096, .ref 4]) (lay' := LY10) (h' := h3) 3 rfl ?_
  refine put_Bg (pc' := 37) (lv' := [(0, .ref 4)]) (st' := [.ref 8, .ref 4]) (lay' := LY12) (x := hnew h3 8) rfl e fun h4 e => ?_
  refine seg_Bg (pc' := 42) (lv' := [(0, .ref 4)]) (st' := [.int 0, .ref 4]) (lay' := LY11) (h' := h4) 3 rfl ?_
  refine put_Bg (pc' := 45) (lv' := [(0, .ref 4)]) (st' := []) (lay' := LY11) (x := hset h4 4 4 0) rfl e fun h5 e => ?_
  refine seg_Bg (pc' := 47) (lv' := [(0, .ref 4), (1, .int 0)]) (st' := []) (lay' := LY11) (h' := h5) 2 rfl ?_
  obtain ⟨t8o, et8o, e⟩ := bd_s e
  refine BJpl_init_L47 L xs R (fun (t8 : Int32 × Hp) => (bd (Jpl_findSets t8.2) fun c9 => bd (Jpl_numberSets c9) fun c10 => some c10) = some o) (fun t8 e => ?_) 1000000 (0, h5) _ et8o e
  refine seg_Bg (pc' := 71) (lv' := [(0, .ref 4), (1, .int t8.1)]) (st' := [.ref 4]) (lay' := LY11) (h' := t8.2) 1 rfl ?_
  refine call_Bg (a := 56) (la := [(0, .ref 4)]) (np := 74) (lv' := [(0, .ref 4), (1, .int t8.1)]) (rest := []) (res := fun r => ([], LY11, r)) rfl e (fun r e => BJpl_findSets L xs t8.2 r e) (fun c9 e => ?_)
  show Bg L xs 55 74 [(0, .ref 4), (1, .int t8.1)] [] LY11 c9 R
  refine seg_Bg (pc' := 75) (lv' := [(0, .ref 4), (1, .int t8.1)]) (st' := [.ref 4]) (lay' := LY11) (h' := c9) 1 rfl ?_
  refine call_Bg (a := 57) (la := [(0, .ref 4)]) (np := 78) (lv' := [(0, .ref 4), (1, .int t8.1)]) (rest := []) (res := fun r => ([], LY11, r)) rfl e (fun r e => BJpl_numberSets L xs c9 r e) (fun c10 e => ?_)
  show Bg L xs 55 78 [(0, .ref 4), (1, .int t8.1)] [] LY11 c10 R
  rw [hR, ← Option.some.inj e]; exact ret_Bg rfl

set_option maxRecDepth 100000 in
theorem BJpu_init (L : Nat) (xs : Nat → Int32) (h : Hp) (o : Hp) (e : Jpu_init h = some o) : Bg L xs 62 0 [(0, .ref 18)] [] LY26 h ([], LY27, o) := by
  obtain ⟨R, hR⟩ : ∃ R : List Value × Lay × Hp, R = ([], LY27, o) := ⟨_, rfl⟩
  rw [← hR]
  refine seg_Bg (pc' := 6) (lv' := [(0, .ref 18)]) (st' := [.int 0, .ref 18]) (lay' := LY26) (h' := h) 4 rfl ?_
  refine put_Bg (pc' := 9) (lv' := [(0, .ref 18)]) (st' := []) (lay' := LY26) (x := hset h 18 0 0) rfl e fun h1 e => ?_
  refine seg_Bg (pc' := 11) (lv' := [(0, .ref 18)]) (st' := [.int 0, .ref 18]) (lay' := LY26) (h' := h1) 2 rfl ?_
  refine put_Bg (pc' := 14) (lv' := [(0, .ref 18)]) (st' := []) (lay' := LY26) (x := hset h1 18 1 0) rfl e fun h2 e => ?_
  refine seg_Bg (pc' := 16) (lv' := [(0, .ref 18)]) (st' := [.int 0, .ref 18]) (lay' := LY26) (h' := h2) 2 rfl ?_
  refine put_Bg (pc' := 19) (lv' := [(0, .ref 18)]) (st' := []) (lay' := LY26) (x := hset h2 18 2 0) rfl e fun h3 e => ?_
  refine seg_Bg (pc' := 21) (lv' := [(0, .ref 18)]) (st' := [.int 4, .ref 18]) (lay' := LY26) (h' := h3) 2 rfl ?_
  refine put_Bg (pc' := 23) (lv' := [(0, .ref 18)]) (st' := [.ref 19, .ref 18]) (lay' := LY28) (x := hnew h3 19) rfl e fun h4 e => ?_
  refine seg_Bg (pc' := 28) (lv' := [(0, .ref 18)]) (st' := [.int 0, .ref 18]) (lay' := LY27) (h' := h4) 3 rfl ?_
  refine put_Bg (pc' := 31) (lv' := [(0, .ref 18)]) (st' := []) (lay' := LY27) (x := hset h4 18 4 0) rfl e fun h5 e => ?_
  refine seg_Bg (pc' := 33) (lv' := [(0, .ref 18)]) (st' := [.int 0, .ref 18]) (lay' := LY27) (h' := h5) 2 rfl ?_
  refine put_Bg (pc' := 36) (lv' := [(0, .ref 18)]) (st' := []) (lay' := LY27) (x := hset h5 18 5 0) rfl e fun h6 e => ?_
  rw [hR, ← Option.some.inj e]; exact ret_Bg rfl

set_option maxRecDepth 100000 in
theorem BJcs_init (L : Nat) (xs : Nat → Int32) (h : Hp) (o : Hp) (e : Jcs_init h = some o) : Bg L xs 13 0 [(0, .ref 10)] [] LY18 h ([], LY29, o) := by
  obtain ⟨R, hR⟩ : ∃ R : List Value × Lay × Hp, R = ([], LY29, o) := ⟨_, rfl⟩
  rw [← hR]
  refine seg_Bg (pc' := 8) (lv' := [(0, .ref 10)]) (st' := [.int 256, .ref 10]) (lay' := LY18) (h' := h) 4 rfl ?_
  refine put_Bg (pc' := 10) (lv' := [(0, .ref 10)]) (st' := [.ref 11, .ref 10]) (lay' := LY36) (x := hnew h 11) rfl e fun h1 e => ?_
  refine seg_Bg (pc' := 17) (lv' := [(0, .ref 10)]) (st' := [.int 256, .ref 10]) (lay' := LY19) (h' := h1) 3 rfl ?_
  refine put_Bg (pc' := 19) (lv' := [(0, .ref 10)]) (st' := [.ref 12, .ref 10]) (lay' := LY35) (x := hnew h1 12) rfl e fun h2 e => ?_
  refine seg_Bg (pc' := 26) (lv' := [(0, .ref 10)]) (st' := [.int 256, .ref 10]) (lay' := LY20) (h' := h2) 3 rfl ?_
  refine put_Bg (pc' := 28) (lv' := [(0, .ref 10)]) (st' := [.ref 13, .ref 10]) (lay' := LY34) (x := hnew h2 13) rfl e fun h3 e => ?_
  refine seg_Bg (pc' := 35) (lv' := [(0, .ref 10)]) (st' := [.int 10001, .ref 10]) (lay' := LY21) (h' := h3) 3 rfl ?_
  refine put_Bg (pc' := 37) (lv' := [(0, .ref 10)]) (st' := [.ref 14, .ref 10]) (lay' := LY33) (x := hnew h3 14) rfl e fun h4 e => ?_
  refine seg_Bg (pc' := 44) (lv' := [(0, .ref 10)]) (st' := [.int 256, .ref 10]) (lay' := LY22) (h' := h4) 3 rfl ?_
  refine put_Bg (pc' := 46) (lv' := [(0, .ref 10)]) (st' := [.ref 15, .ref 10]) (lay' := LY32) (x := hnew h4 15) rfl e fun h5 e => ?_
  refine seg_Bg (pc' := 53) (lv' := [(0, .ref 10)]) (st' := [.int 256, .ref 10]) (lay' := LY23) (h' := h5) 3 rfl ?_
  refine put_Bg (pc' := 55) (lv' := [(0, .ref 10)]) (st' := [.ref 16, .ref 10]) (lay' := LY31) (x := hnew h5 16) rfl e fun h6 e => ?_
  refine seg_Bg (pc' := 61) (lv' := [(0, .ref 10)]) (st' := [.int 6, .ref 10]) (lay' := LY24) (h' := h6) 3 rfl ?_
  refine put_Bg (pc' := 63) (lv' := [(0, .ref 10)]) (st' := [.ref 17, .ref 10]) (lay' := LY30) (x := hnew h6 17) rfl e fun h7 e => ?_
  refine seg_Bg (pc' := 67) (lv' := [(0, .ref 10)]) (st' := [.ref 10]) (lay' := LY25) (h' := h7) 2 rfl ?_
  refine put_Bg (pc' := 70) (lv' := [(0, .ref 10)]) (st' := [.ref 18, .ref 10]) (lay' := LY26) (x := hnew h7 18) rfl e fun h8 e => ?_
  refine seg_Bg (pc' := 71) (lv' := [(0, .ref 10)]) (st' := [.ref 18, .ref 18, .ref 10]) (lay' := LY26) (h' := h8) 1 rfl ?_
  refine call_Bg (a := 62) (la := [(0, .ref 18)]) (np := 74) (lv' := [(0, .ref 10)]) (rest := [.ref 18, .ref 10]) (res := fun r => ([], LY27, r)) rfl e (fun r e => BJpu_init L xs h8 r e) (fun c9 e => ?_)
  show Bg L xs 13 74 [(0, .ref 10)] [.ref 18, .ref 10] LY27 c9 R
  refine seg_Bg (pc' := 79) (lv' := [(0, .ref 10)]) (st' := [.int (-1), .ref 10]) (lay' := LY29) (h' := c9) 3 rfl ?_
  refine put_Bg (pc' := 82) (lv' := [(0, .ref 10)]) (st' := []) (lay' := LY29) (x := hset c9 10 8 (-1)) rfl e fun h10 e => ?_
  refine seg_Bg (pc' := 84) (lv' := [(0, .ref 10)]) (st' := [.int 0, .ref 10]) (lay' := LY29) (h' := h10) 2 rfl ?_
  refine put_Bg (pc' := 87) (lv' := [(0, .ref 10)]) (st' := []) (lay' := LY29) (x := hset h10 10 9 0) rfl e fun h11 e => ?_
  refine seg_Bg (pc' := 89) (lv' := [(0, .ref 10)]) (st' := [.int 0, .ref 10]) (lay' := LY29) (h' := h11) 2 rfl ?_
  refine put_Bg (pc' := 92) (lv' := [(0, .ref 10)]) (st' := []) (lay' := LY29) (x := hset h11 10 10 0) rfl e fun h12 e => ?_
  refine seg_Bg (pc' := 94) (lv' := [(0, .ref 10)]) (st' := [.int 0, .ref 10]) (lay' := LY29) (h' := h12) 2 rfl ?_
  refine put_Bg (pc' := 97) (lv' := [(0, .ref 10)]) (st' := []) (lay' := LY29) (x := hset h12 10 11 0) rfl e fun h13 e => ?_
  refine seg_Bg (pc' := 99) (lv' := [(0, .ref 10)]) (st' := [.int 0, .ref 10]) (lay' := LY29) (h' := h13) 2 rfl ?_
  refine put_Bg (pc' := 102) (lv' := [(0, .ref 10)]) (st' := []) (lay' := LY29) (x := hset h13 10 12 0) rfl e fun h14 e => ?_
  refine seg_Bg (pc' := 104) (lv' := [(0, .ref 10)]) (st' := [.int 0, .ref 10]) (lay' := LY29) (h' := h14) 2 rfl ?_
  refine put_Bg (pc' := 107) (lv' := [(0, .ref 10)]) (st' := []) (lay' := LY29) (x := hset h14 10 13 0) rfl e fun h15 e => ?_
  refine seg_Bg (pc' := 109) (lv' := [(0, .ref 10)]) (st' := [.int (-1), .ref 10]) (lay' := LY29) (h' := h15) 2 rfl ?_
  refine put_Bg (pc' := 112) (lv' := [(0, .ref 10)]) (st' := []) (lay' := LY29) (x := hset h15 10 14 (-1)) rfl e fun h16 e => ?_
  rw [hR, ← Option.some.inj e]; exact ret_Bg rfl

set_option maxRecDepth 100000 in
theorem BJpu_init_1 (L : Nat) (xs : Nat → Int32) (h : Hp) (o : Hp) (e : Jpu_init_1 h = some o) : Bg L xs 62 0 [(0, .ref 20)] [] LY38 h ([], LY39, o) := by
  obtain ⟨R, hR⟩ : ∃ R : List Value × Lay × Hp, R = ([], LY39, o) := ⟨_, rfl⟩
  rw [← hR]
  refine seg_Bg (pc' := 6) (lv' := [(0, .ref 20)]) (st' := [.int 0, .ref 20]) (lay' := LY38) (h' := h) 4 rfl ?_
  refine put_Bg (pc' := 9) (lv' := [(0, .ref 20)]) (st' := []) (lay' := LY38) (x := hset h 20 0 0) rfl e fun h1 e => ?_
  refine seg_Bg (pc' := 11) (lv' := [(0, .ref 20)]) (st' := [.int 0, .ref 20]) (lay' := LY38) (h' := h1) 2 rfl ?_
  refine put_Bg (pc' := 14) (lv' := [(0, .ref 20)]) (st' := []) (lay' := LY38) (x := hset h1 20 1 0) rfl e fun h2 e => ?_
  refine seg_Bg (pc' := 16) (lv' := [(0, .ref 20)]) (st' := [.int 0, .ref 20]) (lay' := LY38) (h' := h2) 2 rfl ?_
  refine put_Bg (pc' := 19) (lv' := [(0, .ref 20)]) (st' := []) (lay' := LY38) (x := hset h2 20 2 0) rfl e fun h3 e => ?_
  refine seg_Bg (pc' := 21) (lv' := [(0, .ref 20)]) (st' := [.int 4, .ref 20]) (lay' := LY38) (h' := h3) 2 rfl ?_
  refine put_Bg (pc' := 23) (lv' := [(0, .ref 20)]) (st' := [.ref 21, .ref 20]) (lay' := LY40) (x := hnew h3 21) rfl e fun h4 e => ?_
  refine seg_Bg (pc' := 28) (lv' := [(0, .ref 20)]) (st' := [.int 0, .ref 20]) (lay' := LY39) (h' := h4) 3 rfl ?_
  refine put_Bg (pc' := 31) (lv' := [(0, .ref 20)]) (st' := []) (lay' := LY39) (x := hset h4 20 4 0) rfl e fun h5 e => ?_
  refine seg_Bg (pc' := 33) (lv' := [(0, .ref 20)]) (st' := [.int 0, .ref 20]) (lay' := LY39) (h' := h5) 2 rfl ?_
  refine put_Bg (pc' := 36) (lv' := [(0, .ref 20)]) (st' := []) (lay' := LY39) (x := hset h5 20 5 0) rfl e fun h6 e => ?_
  rw [hR, ← Option.some.inj e]; exact ret_Bg rfl

set_option maxRecDepth 100000 in
theorem BJwy_init (L : Nat) (xs : Nat → Int32) (h : Hp) (o : Hp) (e : Jwy_init h = some o) : Bg L xs 95 0 [(0, .ref 9)] [] LY17 h ([], LY45, o) := by
  obtain ⟨R, hR⟩ : ∃ R : List Value × Lay × Hp, R = ([], LY45, o) := ⟨_, rfl⟩
  rw [← hR]
  refine seg_Bg (pc' := 5) (lv' := [(0, .ref 9)]) (st' := [.ref 9]) (lay' := LY17) (h' := h) 3 rfl ?_
  refine put_Bg (pc' := 8) (lv' := [(0, .ref 9)]) (st' := [.ref 10, .ref 9]) (lay' := LY18) (x := hnew h 10) rfl e fun h1 e => ?_
  refine seg_Bg (pc' := 9) (lv' := [(0, .ref 9)]) (st' := [.ref 10, .ref 10, .ref 9]) (lay' := LY18) (h' := h1) 1 rfl ?_
  refine call_Bg (a := 13) (la := [(0, .ref 10)]) (np := 12) (lv' := [(0, .ref 9)]) (rest := [.ref 10, .ref 9]) (res := fun r => ([], LY29, r)) rfl e (fun r e => BJcs_init L xs h1 r e) (fun c2 e => ?_)
  show Bg L xs 95 12 [(0, .ref 9)] [.ref 10, .ref 9] LY29 c2 R
  refine seg_Bg (pc' := 16) (lv' := [(0, .ref 9)]) (st' := [.ref 9]) (lay' := LY37) (h' := c2) 2 rfl ?_
  refine put_Bg (pc' := 19) (lv' := [(0, .ref 9)]) (st' := [.ref 20, .ref 9]) (lay' := LY38) (x := hnew c2 20) rfl e fun h3 e => ?_
  refine seg_Bg (pc' := 20) (lv' := [(0, .ref 9)]) (st' := [.ref 20, .ref 20, .ref 9]) (lay' := LY38) (h' := h3) 1 rfl ?_
  refine call_Bg (a := 62) (la := [(0, .ref 20)]) (np := 23) (lv' := [(0, .ref 9)]) (rest := [.ref 20, .ref 9]) (res := fun r => ([], LY39, r)) rfl e (fun r e => BJpu_init_1 L xs h3 r e) (fun c4 e => ?_)
  show Bg L xs 95 23 [(0, .ref 9)] [.ref 20, .ref 9] LY39 c4 R
  refine seg_Bg (pc' := 30) (lv' := [(0, .ref 9)]) (st' := [.int 768, .ref 9]) (lay' := LY41) (h' := c4) 3 rfl ?_
  refine put_Bg (pc' := 32) (lv' := [(0, .ref 9)]) (st' := [.ref 22, .ref 9]) (lay' := LY49) (x := hnew c4 22) rfl e fun h5 e => ?_
  refine seg_Bg (pc' := 39) (lv' := [(0, .ref 9)]) (st' := [.int 256, .ref 9]) (lay' := LY42) (h' := h5) 3 rfl ?_
  refine put_Bg (pc' := 41) (lv' := [(0, .ref 9)]) (st' := [.ref 23, .ref 9]) (lay' := LY48) (x := hnew h5 23) rfl e fun h6 e => ?_
  refine seg_Bg (pc' := 48) (lv' := [(0, .ref 9)]) (st' := [.int 256, .ref 9]) (lay' := LY43) (h' := h6) 3 rfl ?_
  refine put_Bg (pc' := 50) (lv' := [(0, .ref 9)]) (st' := [.ref 24, .ref 9]) (lay' := LY47) (x := hnew h6 24) rfl e fun h7 e => ?_
  refine seg_Bg (pc' := 57) (lv' := [(0, .ref 9)]) (st' := [.int 256, .ref 9]) (lay' := LY44) (h' := h7) 3 rfl ?_
  refine put_Bg (pc' := 59) (lv' := [(0, .ref 9)]) (st' := [.ref 25, .ref 9]) (lay' := LY46) (x := hnew h7 25) rfl e fun h8 e => ?_
  refine seg_Bg (pc' := 62) (lv' := [(0, .ref 9)]) (st' := []) (lay' := LY45) (h' := h8) 1 rfl ?_
  rw [hR, ← Option.some.inj e]; exact ret_Bg rfl

set_option maxRecDepth 100000 in
theorem BJbk_init (L : Nat) (xs : Nat → Int32) (h : Hp) (o : Hp) (e : Jbk_init h = some o) : Bg L xs 0 0 [(0, .ref 26)] [] LY51 h ([], LY53, o) := by
  obtain ⟨R, hR⟩ : ∃ R : List Value × Lay × Hp, R = ([], LY53, o) := ⟨_, rfl⟩
  rw [← hR]
  refine seg_Bg (pc' := 7) (lv' := [(0, .ref 26)]) (st' := [.int 20, .ref 26]) (lay' := LY51) (h' := h) 4 rfl ?_
  refine put_Bg (pc' := 9) (lv' := [(0, .ref 26)]) (st' := [.ref 27, .ref 26]) (lay' := LY55) (x := hnew h 27) rfl e fun h1 e => ?_
  refine seg_Bg (pc' := 15) (lv' := [(0, .ref 26)]) (st' := [.int 20, .ref 26]) (lay' := LY52) (h' := h1) 3 rfl ?_
  refine put_Bg (pc' := 17) (lv' := [(0, .ref 26)]) (st' := [.ref 28, .ref 26]) (lay' := LY54) (x := hnew h1 28) rfl e fun h2 e => ?_
  refine seg_Bg (pc' := 22) (lv' := [(0, .ref 26)]) (st' := [.int 0, .ref 26]) (lay' := LY53) (h' := h2) 3 rfl ?_
  refine put_Bg (pc' := 25) (lv' := [(0, .ref 26)]) (st' := []) (lay' := LY53) (x := hset h2 26 2 0) rfl e fun h3 e => ?_
  rw [hR, ← Option.some.inj e]; exact ret_Bg rfl

set_option maxRecDepth 100000 in
theorem BJsh_init (L : Nat) (xs : Nat → Int32) (h : Hp) (o : Hp) (e : Jsh_init h = some o) : Bg L xs 73 0 [(0, .ref 29)] [] LY57 h ([], LY58, o) := by
  obtain ⟨R, hR⟩ : ∃ R : List Value × Lay × Hp, R = ([], LY58, o) := ⟨_, rfl⟩
  rw [← hR]
  refine seg_Bg (pc' := 7) (lv' := [(0, .ref 29)]) (st' := [.int 6, .ref 29]) (lay' := LY57) (h' := h) 4 rfl ?_
  refine put_Bg (pc' := 9) (lv' := [(0, .ref 29)]) (st' := [.ref 30, .ref 29]) (lay' := LY59) (x := hnew h 30) rfl e fun h1 e => ?_
  refine seg_Bg (pc' := 14) (lv' := [(0, .ref 29)]) (st' := [.int 0, .ref 29]) (lay' := LY58) (h' := h1) 3 rfl ?_
  refine put_Bg (pc' := 17) (lv' := [(0, .ref 29)]) (st' := []) (lay' := LY58) (x := hset h1 29 1 0) rfl e fun h2 e => ?_
  refine seg_Bg (pc' := 19) (lv' := [(0, .ref 29)]) (st' := [.int 0, .ref 29]) (lay' := LY58) (h' := h2) 2 rfl ?_
  refine put_Bg (pc' := 22) (lv' := [(0, .ref 29)]) (st' := []) (lay' := LY58) (x := hset h2 29 2 0) rfl e fun h3 e => ?_
  rw [hR, ← Option.some.inj e]; exact ret_Bg rfl

set_option maxRecDepth 100000 in
theorem BJpa_init (L : Nat) (xs : Nat → Int32) (h : Hp) (o : Hp) (e : Jpa_init h = some o) : Bg L xs 49 0 [(0, .ref 31)] [] LY61 h ([], LY64, o) := by
  obtain ⟨R, hR⟩ : ∃ R : List Value × Lay × Hp, R = ([], LY64, o) := ⟨_, rfl⟩
  rw [← hR]
  refine seg_Bg (pc' := 7) (lv' := [(0, .ref 31)]) (st' := [.int 18, .ref 31]) (lay' := LY61) (h' := h) 4 rfl ?_
  refine put_Bg (pc' := 9) (lv' := [(0, .ref 31)]) (st' := [.ref 32, .ref 31]) (lay' := LY67) (x := hnew h 32) rfl e fun h1 e => ?_
  refine seg_Bg (pc' := 15) (lv' := [(0, .ref 31)]) (st' := [.int 18, .ref 31]) (lay' := LY62) (h' := h1) 3 rfl ?_
  refine put_Bg (pc' := 17) (lv' := [(0, .ref 31)]) (st' := [.ref 33, .ref 31]) (lay' := LY66) (x := hnew h1 33) rfl e fun h2 e => ?_
  refine seg_Bg (pc' := 23) (lv' := [(0, .ref 31)]) (st' := [.int 108, .ref 31]) (lay' := LY63) (h' := h2) 3 rfl ?_
  refine put_Bg (pc' := 25) (lv' := [(0, .ref 31)]) (st' := [.ref 34, .ref 31]) (lay' := LY65) (x := hnew h2 34) rfl e fun h3 e => ?_
  refine seg_Bg (pc' := 30) (lv' := [(0, .ref 31)]) (st' := [.int 0, .ref 31]) (lay' := LY64) (h' := h3) 3 rfl ?_
  refine put_Bg (pc' := 33) (lv' := [(0, .ref 31)]) (st' := []) (lay' := LY64) (x := hset h3 31 3 0) rfl e fun h4 e => ?_
  refine seg_Bg (pc' := 35) (lv' := [(0, .ref 31)]) (st' := [.int 0, .ref 31]) (lay' := LY64) (h' := h4) 2 rfl ?_
  refine put_Bg (pc' := 38) (lv' := [(0, .ref 31)]) (st' := []) (lay' := LY64) (x := hset h4 31 4 0) rfl e fun h5 e => ?_
  rw [hR, ← Option.some.inj e]; exact ret_Bg rfl

set_option maxRecDepth 100000 in
theorem BJyn_init (L : Nat) (xs : Nat → Int32) (h : Hp) (o : Hp) (e : Jyn_init h = some o) : Bg L xs 111 0 [(0, .ref 0)] [] LY0 h ([], LY70, o) := by
  obtain ⟨R, hR⟩ : ∃ R : List Value × Lay × Hp, R = ([], LY70, o) := ⟨_, rfl⟩
  rw [← hR]
  refine seg_Bg (pc' := 5) (lv' := [(0, .ref 0)]) (st' := [.ref 0]) (lay' := LY0) (h' := h) 3 rfl ?_
  refine put_Bg (pc' := 8) (lv' := [(0, .ref 0)]) (st' := [.ref 1, .ref 0]) (lay' := LY1) (x := hnew h 1) rfl e fun h1 e => ?_
  refine seg_Bg (pc' := 9) (lv' := [(0, .ref 0)]) (st' := [.ref 1, .ref 1, .ref 0]) (lay' := LY1) (h' := h1) 1 rfl ?_
  refine call_Bg (a := 36) (la := [(0, .ref 1)]) (np := 12) (lv' := [(0, .ref 0)]) (rest := [.ref 1, .ref 0]) (res := fun r => ([], LY3, r)) rfl e (fun r e => BJfm_init L xs h1 r e) (fun c2 e => ?_)
  show Bg L xs 111 12 [(0, .ref 0)] [.ref 1, .ref 0] LY3 c2 R
  refine seg_Bg (pc' := 16) (lv' := [(0, .ref 0)]) (st' := [.ref 0]) (lay' := LY6) (h' := c2) 2 rfl ?_
  refine put_Bg (pc' := 19) (lv' := [(0, .ref 0)]) (st' := [.ref 4, .ref 0]) (lay' := LY7) (x := hnew c2 4) rfl e fun h3 e => ?_
  refine seg_Bg (pc' := 20) (lv' := [(0, .ref 0)]) (st' := [.ref 4, .ref 4, .ref 0]) (lay' := LY7) (h' := h3) 1 rfl ?_
  refine call_Bg (a := 55) (la := [(0, .ref 4)]) (np := 23) (lv' := [(0, .ref 0)]) (rest := [.ref 4, .ref 0]) (res := fun r => ([], LY11, r)) rfl e (fun r e => BJpl_init L xs h3 r e) (fun c4 e => ?_)
  show Bg L xs 111 23 [(0, .ref 0)] [.ref 4, .ref 0] LY11 c4 R
  refine seg_Bg (pc' := 27) (lv' := [(0, .ref 0)]) (st' := [.ref 0]) (lay' := LY16) (h' := c4) 2 rfl ?_
  refine put_Bg (pc' := 30) (lv' := [(0, .ref 0)]) (st' := [.ref 9, .ref 0]) (lay' := LY17) (x := hnew c4 9) rfl e fun h5 e => ?_
  refine seg_Bg (pc' := 31) (lv' := [(0, .ref 0)]) (st' := [.ref 9, .ref 9, .ref 0]) (lay' := LY17) (h' := h5) 1 rfl ?_
  refine call_Bg (a := 95) (la := [(0, .ref 9)]) (np := 34) (lv' := [(0, .ref 0)]) (rest := [.ref 9, .ref 0]) (res := fun r => ([], LY45, r)) rfl e (fun r e => BJwy_init L xs h5 r e) (fun c6 e => ?_)
  show Bg L xs 111 34 [(0, .ref 0)] [.ref 9, .ref 0] LY45 c6 R
  refine seg_Bg (pc' := 38) (lv' := [(0, .ref 0)]) (st' := [.ref 0]) (lay' := LY50) (h' := c6) 2 rfl ?_
  refine put_Bg (pc' := 41) (lv' := [(0, .ref 0)]) (st' := [.ref 26, .ref 0]) (lay' := LY51) (x := hnew c6 26) rfl e fun h7 e => ?_
  refine seg_Bg (pc' := 42) (lv' := [(0, .ref 0)]) (st' := [.ref 26, .ref 26, .ref 0]) (lay' := LY51) (h' := h7) 1 rfl ?_
  refine call_Bg (a := 0) (la := [(0, .ref 26)]) (np := 45) (lv' := [(0, .ref 0)]) (rest := [.ref 26, .ref 0]) (res := fun r => ([], LY53, r)) rfl e (fun r e => BJbk_init L xs h7 r e) (fun c8 e => ?_)
  show Bg L xs 111 45 [(0, .ref 0)] [.ref 26, .ref 0] LY53 c8 R
  refine seg_Bg (pc' := 49) (lv' := [(0, .ref 0)]) (st' := [.ref 0]) (lay' := LY56) (h' := c8) 2 rfl ?_
  refine put_Bg (pc' := 52) (lv' := [(0, .ref 0)]) (st' := [.ref 29, .ref 0]) (lay' := LY57) (x := hnew c8 29) rfl e fun h9 e => ?_
  refine seg_Bg (pc' := 53) (lv' := [(0, .ref 0)]) (st' := [.ref 29, .ref 29, .ref 0]) (lay' := LY57) (h' := h9) 1 rfl ?_
  refine call_Bg (a := 73) (la := [(0, .ref 29)]) (np := 56) (lv' := [(0, .ref 0)]) (rest := [.ref 29, .ref 0]) (res := fun r => ([], LY58, r)) rfl e (fun r e => BJsh_init L xs h9 r e) (fun c10 e => ?_)
  show Bg L xs 111 56 [(0, .ref 0)] [.ref 29, .ref 0] LY58 c10 R
  refine seg_Bg (pc' := 60) (lv' := [(0, .ref 0)]) (st' := [.ref 0]) (lay' := LY60) (h' := c10) 2 rfl ?_
  refine put_Bg (pc' := 63) (lv' := [(0, .ref 0)]) (st' := [.ref 31, .ref 0]) (lay' := LY61) (x := hnew c10 31) rfl e fun h11 e => ?_
  refine seg_Bg (pc' := 64) (lv' := [(0, .ref 0)]) (st' := [.ref 31, .ref 31, .ref 0]) (lay' := LY61) (h' := h11) 1 rfl ?_
  refine call_Bg (a := 49) (la := [(0, .ref 31)]) (np := 67) (lv' := [(0, .ref 0)]) (rest := [.ref 31, .ref 0]) (res := fun r => ([], LY64, r)) rfl e (fun r e => BJpa_init L xs h11 r e) (fun c12 e => ?_)
  show Bg L xs 111 67 [(0, .ref 0)] [.ref 31, .ref 0] LY64 c12 R
  refine seg_Bg (pc' := 72) (lv' := [(0, .ref 0)]) (st' := [.int 2, .ref 0]) (lay' := LY68) (h' := c12) 3 rfl ?_
  refine put_Bg (pc' := 74) (lv' := [(0, .ref 0)]) (st' := [.ref 35, .ref 0]) (lay' := LY72) (x := hnew c12 35) rfl e fun h13 e => ?_
  refine seg_Bg (pc' := 79) (lv' := [(0, .ref 0)]) (st' := [.int 2, .ref 0]) (lay' := LY69) (h' := h13) 3 rfl ?_
  refine put_Bg (pc' := 81) (lv' := [(0, .ref 0)]) (st' := [.ref 36, .ref 0]) (lay' := LY71) (x := hnew h13 36) rfl e fun h14 e => ?_
  refine seg_Bg (pc' := 86) (lv' := [(0, .ref 0)]) (st' := [.int 0, .ref 0]) (lay' := LY70) (h' := h14) 3 rfl ?_
  refine put_Bg (pc' := 89) (lv' := [(0, .ref 0)]) (st' := []) (lay' := LY70) (x := hset h14 0 8 0) rfl e fun h15 e => ?_
  refine seg_Bg (pc' := 91) (lv' := [(0, .ref 0)]) (st' := [.int (-1), .ref 0]) (lay' := LY70) (h' := h15) 2 rfl ?_
  refine put_Bg (pc' := 94) (lv' := [(0, .ref 0)]) (st' := []) (lay' := LY70) (x := hset h15 0 9 (-1)) rfl e fun h16 e => ?_
  rw [hR, ← Option.some.inj e]; exact ret_Bg rfl

