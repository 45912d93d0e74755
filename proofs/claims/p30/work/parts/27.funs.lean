/-! Runs of the small machine are the functions of the methods. (Written by wip/p30/gen3.py.) -/
set_option maxRecDepth 100000 in
theorem BJw_cell (L : Nat) (xs : Nat → Int32) (v1 : Int32) (lay : Lay) (h : Hp) (o : Int32) (e : Jw_cell L xs v1 = some o) : Bg L xs 127 0 [(0, .retAddr 0), (1, .int v1)] [] lay h ([.int o], lay, h) := by
  obtain ⟨R, hR⟩ : ∃ R : List Value × Lay × Hp, R = ([.int o], lay, h) := ⟨_, rfl⟩
  rw [← hR]
  refine seg_Bg (pc' := (if v1 < (Int32.ofNat L) then 6 else 12)) (lv' := [(0, .retAddr 0), (1, .int v1)]) (st' := []) (lay' := lay) (h' := h) 4 rfl ?_
  refine pc_ite e (fun e => ?_) (fun e => ?_)
  · refine seg_Bg (pc' := 8) (lv' := [(0, .retAddr 0), (1, .int v1)]) (st' := [.int v1, .retAddr 0]) (lay' := lay) (h' := h) 2 rfl ?_
    refine gd_Bg (pc' := 9) (lv' := [(0, .retAddr 0), (1, .int v1)]) (st' := [.int (xs (Int32.toNatClampNeg v1))]) (lay' := lay) (h' := h) (g := (ibB v1 L && true)) rfl e fun e => ?_
    refine seg_Bg (pc' := 18) (lv' := [(0, .retAddr 0), (1, .int v1)]) (st' := [.int (xs (Int32.toNatClampNeg v1))]) (lay' := lay) (h' := h) 1 rfl ?_
    rw [hR, ← Option.some.inj e]; exact ret_Bg rfl
  · refine seg_Bg (pc' := 18) (lv' := [(0, .retAddr 0), (1, .int v1)]) (st' := [.int ((747796405 : Int32) * (v1 + (1 : Int32)))]) (lay' := lay) (h' := h) 5 rfl ?_
    rw [hR, ← Option.some.inj e]; exact ret_Bg rfl

set_option maxRecDepth 100000 in
theorem BJw_low (L : Nat) (xs : Nat → Int32) (v0 : Int32) (v1 : Int32) (lay : Lay) (h : Hp) (o : Int32) (e : Jw_low v0 v1 = some o) : Bg L xs 128 0 [(0, .int v0), (1, .int v1)] [] lay h ([.int o], lay, h) := by
  obtain ⟨R, hR⟩ : ∃ R : List Value × Lay × Hp, R = ([.int o], lay, h) := ⟨_, rfl⟩
  rw [← hR]
  refine seg_Bg (pc' := 5) (lv' := [(0, .int v0), (1, .int v1)]) (st' := [.int v1, .int (v0 &&& (2147483647 : Int32))]) (lay' := lay) (h' := h) 4 rfl ?_
  refine gd_Bg (pc' := 6) (lv' := [(0, .int v0), (1, .int v1)]) (st' := [.int ((v0 &&& (2147483647 : Int32)) - (v0 &&& (2147483647 : Int32)) / v1 * v1)]) (lay' := lay) (h' := h) (g := !(decide (v1 = 0))) rfl e fun e => ?_
  rw [hR, ← Option.some.inj e]; exact ret_Bg rfl

set_option maxRecDepth 100000 in
theorem BJw_drawn_L4_s (L : Nat) (xs : Nat → Int32) (v0 : Int32) (lay : Lay) (h : Hp) (R : List Value × Lay × Hp) (v1 v2 : Int32) (o : ((Int32 × Int32) ⊕ (Int32 × Int32))) (hH : ∀ s : Int32 × Int32, o = .inl s → Bg L xs 132 4 [(0, .int v0), (1, .int s.1), (2, .int s.2)] [] lay h R) (hE : ∀ t : Int32 × Int32, o = .inr t → Bg L xs 132 39 [(0, .int v0), (1, .int t.1), (2, .int t.2)] [] lay h R) (e : Jw_drawn_L4 v0 v1 v2 = some o) : Bg L xs 132 4 [(0, .int v0), (1, .int v1), (2, .int v2)] [] lay h R := by
  refine seg_Bg (pc' := (if v2 < 8 then 10 else 39)) (lv' := [(0, .int v0), (1, .int v1), (2, .int v2)]) (st' := []) (lay' := lay) (h' := h) 3 rfl ?_
  refine pc_ite e (fun e => ?_) (fun e => ?_)
  · refine seg_Bg (pc' := (if ((v0 >>> (((3 : Int32) + (v2 / 2)) &&& 31) : Int32) &&& (1 : Int32)) = 1 then 23 else 31)) (lv' := [(0, .int v0), (1, .int v1), (2, .int v2)]) (st' := []) (lay' := lay) (h' := h) 11 rfl ?_
    refine pc_ite e (fun e => ?_) (fun e => ?_)
    · refine seg_Bg (pc' := 4) (lv' := [(0, .int v0), (1, .int (v1 ||| ((1 : Int32) <<< (v2 &&& 31) : Int32))), (2, .int (v2 + 1))]) (st' := []) (lay' := lay) (h' := h) 9 rfl ?_
      exact hH (v1 ||| ((1 : Int32) <<< (v2 &&& 31) : Int32), v2 + 1) (Option.some.inj e).symm
    · refine seg_Bg (pc' := 4) (lv' := [(0, .int v0), (1, .int v1), (2, .int (v2 + 1))]) (st' := []) (lay' := lay) (h' := h) 4 rfl ?_
      exact hH (v1, v2 + 1) (Option.some.inj e).symm
  · exact hE (v1, v2) (Option.some.inj e).symm
theorem BJw_drawn_L4 (L : Nat) (xs : Nat → Int32) (v0 : Int32) (lay : Lay) (h : Hp) (R : List Value × Lay × Hp) (C : (Int32 × Int32) → Prop) (hE : ∀ t : Int32 × Int32, C t → Bg L xs 132 39 [(0, .int v0), (1, .int t.1), (2, .int t.2)] [] lay h R) (n : Nat) (s : Int32 × Int32) (o : (Int32 × Int32)) (e : loopN n (fun s => Jw_drawn_L4 v0 s.1 s.2) s = some o) (hC : C o) : Bg L xs 132 4 [(0, .int v0), (1, .int s.1), (2, .int s.2)] [] lay h R := by
  refine loop_B (fun s => Jw_drawn_L4 v0 s.1 s.2) (fun s : Int32 × Int32 => Bg L xs 132 4 [(0, .int v0), (1, .int s.1), (2, .int s.2)] [] lay h R) C (fun s o e => ?_) n s o e hC
  intro hK
  refine BJw_drawn_L4_s L xs v0 lay h R s.1 s.2 o (fun s q => by subst q; exact hK) (fun t q => by subst q; exact hE t hK) e
set_option maxRecDepth 100000 in
theorem BJw_drawn (L : Nat) (xs : Nat → Int32) (v0 : Int32) (lay : Lay) (h : Hp) (o : Int32) (e : Jw_drawn v0 = some o) : Bg L xs 132 0 [(0, .int v0)] [] lay h ([.int o], lay, h) := by
  obtain ⟨R, hR⟩ : ∃ R : List Value × Lay × Hp, R = ([.int o], lay, h) := ⟨_, rfl⟩
  rw [← hR]
  refine seg_Bg (pc' := 4) (lv' := [(0, .int v0), (1, .int 0), (2, .int 0)]) (st' := []) (lay' := lay) (h' := h) 4 rfl ?_
  obtain ⟨t1o, et1o, e⟩ := bd_s e
  refine BJw_drawn_L4 L xs v0 lay h R (fun (t1 : Int32 × Int32) => (bd (Jw_low v0 8) fun c2 => if c2 = 0 then bd (Jw_low (v0 >>> (3 &&& 31) : Int32) 256) fun c3 => some c3 else some t1.1) = some o) (fun t1 e => ?_) 1000000 (0, 0) _ et1o e
  refine seg_Bg (pc' := 42) (lv' := [(0, .int v0), (1, .int t1.1), (2, .int t1.2)]) (st' := [.int 8, .int v0]) (lay' := lay) (h' := h) 2 rfl ?_
  refine call_Bg (a := 128) (la := [(0, .int v0), (1, .int 8)]) (np := 45) (lv' := [(0, .int v0), (1, .int t1.1), (2, .int t1.2)]) (rest := []) (res := fun r => ([.int r], lay, h)) rfl e (fun r e => BJw_low L xs v0 8 lay h r e) (fun c2 e => ?_)
  show Bg L xs 132 45 [(0, .int v0), (1, .int t1.1), (2, .int t1.2)] [.int c2] lay h R
  refine seg_Bg (pc' := (if c2 = 0 then 48 else 60)) (lv' := [(0, .int v0), (1, .int t1.1), (2, .int t1.2)]) (st' := []) (lay' := lay) (h' := h) 1 rfl ?_
  refine pc_ite e (fun e => ?_) (fun e => ?_)
  · refine seg_Bg (pc' := 54) (lv' := [(0, .int v0), (1, .int t1.1), (2, .int t1.2)]) (st' := [.int 256, .int (v0 >>> (3 &&& 31) : Int32)]) (lay' := lay) (h' := h) 4 rfl ?_
    refine call_Bg (a := 128) (la := [(0, .int (v0 >>> (3 &&& 31) : Int32)), (1, .int 256)]) (np := 57) (lv' := [(0, .int v0), (1, .int t1.1), (2, .int t1.2)]) (rest := []) (res := fun r => ([.int r], lay, h)) rfl e (fun r e => BJw_low L xs (v0 >>> (3 &&& 31) : Int32) 256 lay h r e) (fun c3 e => ?_)
    show Bg L xs 132 57 [(0, .int v0), (1, .int t1.1), (2, .int t1.2)] [.int c3] lay h R
    refine seg_Bg (pc' := 61) (lv' := [(0, .int v0), (1, .int t1.1), (2, .int t1.2)]) (st' := [.int c3]) (lay' := lay) (h' := h) 1 rfl ?_
    rw [hR, ← Option.some.inj e]; exact ret_Bg rfl
  · refine seg_Bg (pc' := 61) (lv' := [(0, .int v0), (1, .int t1.1), (2, .int t1.2)]) (st' := [.int t1.1]) (lay' := lay) (h' := h) 1 rfl ?_
    rw [hR, ← Option.some.inj e]; exact ret_Bg rfl

set_option maxRecDepth 100000 in
theorem BJw_t (L : Nat) (xs : Nat → Int32) (v1 : Int32) (h : Wd) (o : Int32 × Wd) (e : Jw_t v1 h = some o) : Bg L xs 129 0 [(0, .ref 0), (1, .int v1)] [] (LAY h.1) h.2 ([.int o.1], LAY o.2.1, o.2.2) := by
  obtain ⟨R, hR⟩ : ∃ R : List Value × Lay × Hp, R = ([.int o.1], LAY o.2.1, o.2.2) := ⟨_, rfl⟩
  rw [← hR]
  refine seg_Bg (pc' := 2) (lv' := [(0, .ref 0), (1, .int v1)]) (st' := [.int v1, .ref 0]) (lay' := LAY h.1) (h' := h.2) 2 rfl ?_
  refine call_Bg (a := 112) (la := [(0, .ref 0), (1, .int v1)]) (np := 5) (lv' := [(0, .ref 0), (1, .int v1)]) (rest := []) (res := fun r => ([.int r.1], LAY r.2.1, r.2.2)) rfl e (fun r e => BOo_feed L xs v1 h r e) (fun c1 e => ?_)
  show Bg L xs 129 5 [(0, .ref 0), (1, .int v1)] [.int c1.1] (LAY c1.2.1) c1.2.2 R
  refine seg_Bg (pc' := (if 0 < c1.1 then 8 else 12)) (lv' := [(0, .ref 0), (1, .int v1)]) (st' := []) (lay' := LAY c1.2.1) (h' := c1.2.2) 1 rfl ?_
  refine pc_ite e (fun e => ?_) (fun e => ?_)
  · refine seg_Bg (pc' := 13) (lv' := [(0, .ref 0), (1, .int v1)]) (st' := [.int 1]) (lay' := LAY c1.2.1) (h' := c1.2.2) 2 rfl ?_
    rw [hR, ← Option.some.inj e]; exact ret_Bg rfl
  · refine seg_Bg (pc' := 13) (lv' := [(0, .ref 0), (1, .int v1)]) (st' := [.int 0]) (lay' := LAY c1.2.1) (h' := c1.2.2) 1 rfl ?_
    rw [hR, ← Option.some.inj e]; exact ret_Bg rfl

set_option maxRecDepth 100000 in
theorem BJw_half_L26_s (L : Nat) (xs : Nat → Int32) (v1 : Int32) (R : List Value × Lay × Hp) (v2 v3 : Int32) (h : Wd) (o : ((Int32 × Int32 × Wd) ⊕ (Int32 × Int32 × Wd))) (hH : ∀ s : Int32 × Int32 × Wd, o = .inl s → Bg L xs 130 26 [(0, .ref 0), (1, .int v1), (2, .int s.1), (3, .int s.2.1)] [] (LAY s.2.2.1) s.2.2.2 R) (hE : ∀ t : Int32 × Int32 × Wd, o = .inr t → Bg L xs 130 100 [(0, .ref 0), (1, .int v1), (2, .int t.1), (3, .int t.2.1)] [] (LAY t.2.2.1) t.2.2.2 R) (e : Jw_half_L26 v1 v2 v3 h = some o) : Bg L xs 130 26 [(0, .ref 0), (1, .int v1), (2, .int v2), (3, .int v3)] [] (LAY h.1) h.2 R := by
  refine seg_Bg (pc' := (if v3 < 0 then 100 else 30)) (lv' := [(0, .ref 0), (1, .int v1), (2, .int v2), (3, .int v3)]) (st' := []) (lay' := LAY h.1) (h' := h.2) 2 rfl ?_
  refine pc_ite e (fun e => ?_) (fun e => ?_)
  · exact hE (v2, v3, h) (Option.some.inj e).symm
  · refine seg_Bg (pc' := (if v2 = 0 then 92 else 34)) (lv' := [(0, .ref 0), (1, .int v1), (2, .int v2), (3, .int v3)]) (st' := []) (lay' := LAY h.1) (h' := h.2) 2 rfl ?_
    refine pc_ite e (fun e => ?_) (fun e => ?_)
    · refine seg_Bg (pc' := 26) (lv' := [(0, .ref 0), (1, .int v1), (2, .int 0), (3, .int (v3 + (-1)))]) (st' := []) (lay' := LAY h.1) (h' := h.2) 4 rfl ?_
      exact hH (0, v3 + (-1), h) (Option.some.inj e).symm
    · refine seg_Bg (pc' := 37) (lv' := [(0, .ref 0), (1, .int v1), (2, .int v2), (3, .int v3)]) (st' := [.int 63, .ref 0]) (lay' := LAY h.1) (h' := h.2) 2 rfl ?_
      refine call_Bg (a := 129) (la := [(0, .ref 0), (1, .int 63)]) (np := 40) (lv' := [(0, .ref 0), (1, .int v1), (2, .int v2), (3, .int v3)]) (rest := []) (res := fun r => ([.int r.1], LAY r.2.1, r.2.2)) rfl e (fun r e => BJw_t L xs 63 h r e) (fun c2 e => ?_)
      show Bg L xs 130 40 [(0, .ref 0), (1, .int v1), (2, .int v2), (3, .int v3)] [.int c2.1] (LAY c2.2.1) c2.2.2 R
      refine seg_Bg (pc' := (if c2.1 = 0 then 92 else 43)) (lv' := [(0, .ref 0), (1, .int v1), (2, .int v2), (3, .int v3)]) (st' := []) (lay' := LAY c2.2.1) (h' := c2.2.2) 1 rfl ?_
      refine pc_ite e (fun e => ?_) (fun e => ?_)
      · refine seg_Bg (pc' := 26) (lv' := [(0, .ref 0), (1, .int v1), (2, .int 0), (3, .int (v3 + (-1)))]) (st' := []) (lay' := LAY c2.2.1) (h' := c2.2.2) 4 rfl ?_
        exact hH (0, v3 + (-1), c2.2) (Option.some.inj e).symm
      · refine seg_Bg (pc' := 46) (lv' := [(0, .ref 0), (1, .int v1), (2, .int v2), (3, .int v3)]) (st' := [.int 99, .ref 0]) (lay' := LAY c2.2.1) (h' := c2.2.2) 2 rfl ?_
        refine call_Bg (a := 129) (la := [(0, .ref 0), (1, .int 99)]) (np := 49) (lv' := [(0, .ref 0), (1, .int v1), (2, .int v2), (3, .int v3)]) (rest := []) (res := fun r => ([.int r.1], LAY r.2.1, r.2.2)) rfl e (fun r e => BJw_t L xs 99 c2.2 r e) (fun c3 e => ?_)
        show Bg L xs 130 49 [(0, .ref 0), (1, .int v1), (2, .int v2), (3, .int v3)] [.int c3.1] (LAY c3.2.1) c3.2.2 R
        refine seg_Bg (pc' := (if c3.1 = 0 then 92 else 52)) (lv' := [(0, .ref 0), (1, .int v1), (2, .int v2), (3, .int v3)]) (st' := []) (lay' := LAY c3.2.1) (h' := c3.2.2) 1 rfl ?_
        refine pc_ite e (fun e => ?_) (fun e => ?_)
        · refine seg_Bg (pc' := 26) (lv' := [(0, .ref 0), (1, .int v1), (2, .int 0), (3, .int (v3 + (-1)))]) (st' := []) (lay' := LAY c3.2.1) (h' := c3.2.2) 4 rfl ?_
          exact hH (0, v3 + (-1), c3.2) (Option.some.inj e).symm
        · refine seg_Bg (pc' := 65) (lv' := [(0, .ref 0), (1, .int v1), (2, .int v2), (3, .int v3)]) (st' := [.int ((48 : Int32) + ((v1 >>> ((((2 : Int32) * v3) + (1 : Int32)) &&& 31) : Int32) &&& (1 : Int32))), .ref 0]) (lay' := LAY c3.2.1) (h' := c3.2.2) 12 rfl ?_
          refine call_Bg (a := 129) (la := [(0, .ref 0), (1, .int ((48 : Int32) + ((v1 >>> ((((2 : Int32) * v3) + (1 : Int32)) &&& 31) : Int32) &&& (1 : Int32))))]) (np := 68) (lv' := [(0, .ref 0), (1, .int v1), (2, .int v2), (3, .int v3)]) (rest := []) (res := fun r => ([.int r.1], LAY r.2.1, r.2.2)) rfl e (fun r e => BJw_t L xs ((48 : Int32) + ((v1 >>> ((((2 : Int32) * v3) + (1 : Int32)) &&& 31) : Int32) &&& (1 : Int32))) c3.2 r e) (fun c4 e => ?_)
          show Bg L xs 130 68 [(0, .ref 0), (1, .int v1), (2, .int v2), (3, .int v3)] [.int c4.1] (LAY c4.2.1) c4.2.2 R
          refine seg_Bg (pc' := (if c4.1 = 0 then 92 else 71)) (lv' := [(0, .ref 0), (1, .int v1), (2, .int v2), (3, .int v3)]) (st' := []) (lay' := LAY c4.2.1) (h' := c4.2.2) 1 rfl ?_
          refine pc_ite e (fun e => ?_) (fun e => ?_)
          · refine seg_Bg (pc' := 26) (lv' := [(0, .ref 0), (1, .int v1), (2, .int 0), (3, .int (v3 + (-1)))]) (st' := []) (lay' := LAY c4.2.1) (h' := c4.2.2) 4 rfl ?_
            exact hH (0, v3 + (-1), c4.2) (Option.some.inj e).symm
          · refine seg_Bg (pc' := 82) (lv' := [(0, .ref 0), (1, .int v1), (2, .int v2), (3, .int v3)]) (st' := [.int ((48 : Int32) + ((v1 >>> (((2 : Int32) * v3) &&& 31) : Int32) &&& (1 : Int32))), .ref 0]) (lay' := LAY c4.2.1) (h' := c4.2.2) 10 rfl ?_
            refine call_Bg (a := 129) (la := [(0, .ref 0), (1, .int ((48 : Int32) + ((v1 >>> (((2 : Int32) * v3) &&& 31) : Int32) &&& (1 : Int32))))]) (np := 85) (lv' := [(0, .ref 0), (1, .int v1), (2, .int v2), (3, .int v3)]) (rest := []) (res := fun r => ([.int r.1], LAY r.2.1, r.2.2)) rfl e (fun r e => BJw_t L xs ((48 : Int32) + ((v1 >>> (((2 : Int32) * v3) &&& 31) : Int32) &&& (1 : Int32))) c4.2 r e) (fun c5 e => ?_)
            show Bg L xs 130 85 [(0, .ref 0), (1, .int v1), (2, .int v2), (3, .int v3)] [.int c5.1] (LAY c5.2.1) c5.2.2 R
            refine seg_Bg (pc' := (if c5.1 = 0 then 92 else 88)) (lv' := [(0, .ref 0), (1, .int v1), (2, .int v2), (3, .int v3)]) (st' := []) (lay' := LAY c5.2.1) (h' := c5.2.2) 1 rfl ?_
            refine pc_ite e (fun e => ?_) (fun e => ?_)
            · refine seg_Bg (pc' := 26) (lv' := [(0, .ref 0), (1, .int v1), (2, .int 0), (3, .int (v3 + (-1)))]) (st' := []) (lay' := LAY c5.2.1) (h' := c5.2.2) 4 rfl ?_
              exact hH (0, v3 + (-1), c5.2) (Option.some.inj e).symm
            · refine seg_Bg (pc' := 26) (lv' := [(0, .ref 0), (1, .int v1), (2, .int 1), (3, .int (v3 + (-1)))]) (st' := []) (lay' := LAY c5.2.1) (h' := c5.2.2) 5 rfl ?_
              exact hH (1, v3 + (-1), c5.2) (Option.some.inj e).symm
theorem BJw_half_L26 (L : Nat) (xs : Nat → Int32) (v1 : Int32) (R : List Value × Lay × Hp) (C : (Int32 × Int32 × Wd) → Prop) (hE : ∀ t : Int32 × Int32 × Wd, C t → Bg L xs 130 100 [(0, .ref 0), (1, .int v1), (2, .int t.1), (3, .int t.2.1)] [] (LAY t.2.2.1) t.2.2.2 R) (n : Nat) (s : Int32 × Int32 × Wd) (o : (Int32 × Int32 × Wd)) (e : loopN n (fun s => Jw_half_L26 v1 s.1 s.2.1 s.2.2) s = some o) (hC : C o) : Bg L xs 130 26 [(0, .ref 0), (1, .int v1), (2, .int s.1), (3, .int s.2.1)] [] (LAY s.2.2.1) s.2.2.2 R := by
  refine loop_B (fun s => Jw_half_L26 v1 s.1 s.2.1 s.2.2) (fun s : Int32 × Int32 × Wd => Bg L xs 130 26 [(0, .ref 0), (1, .int v1), (2, .int s.1), (3, .int s.2.1)] [] (LAY s.2.2.1) s.2.2.2 R) C (fun s o e => ?_) n s o e hC
  intro hK
  refine BJw_half_L26_s L xs v1 R s.1 s.2.1 s.2.2 o (fun s q => by subst q; exact hK) (fun t q => by subst q; exact hE t hK) e
set_option maxRecDepth 100000 in
theorem BJw_half_J23 (L : Nat) (xs : Nat → Int32) (v1 s0 : Int32) (h : Wd) (o : (Int32 × Wd)) (e : Jw_half_J23 v1 s0 h = some o) (R : List Value × Lay × Hp) (hR : R = ([.int o.1], LAY o.2.1, o.2.2)) : Bg L xs 130 23 [(0, .ref 0), (1, .int v1)] [.int s0] (LAY h.1) h.2 R := by
  refine seg_Bg (pc' := 26) (lv' := [(0, .ref 0), (1, .int v1), (2, .int s0), (3, .int 1)]) (st' := []) (lay' := LAY h.1) (h' := h.2) 3 rfl ?_
  obtain ⟨t6o, et6o, e⟩ := bd_s e
  refine BJw_half_L26 L xs v1 R (fun (t6 : Int32 × Int32 × Wd) => (bif isZ t6.1 then some (t6.1, t6.2.2) else none) = some o) (fun t6 e => ?_) 1000000 (s0, 1, h) _ et6o e
  refine seg_Bg (pc' := 101) (lv' := [(0, .ref 0), (1, .int v1), (2, .int t6.1), (3, .int t6.2.1)]) (st' := [.int t6.1]) (lay' := LAY t6.2.2.1) (h' := t6.2.2.2) 1 rfl ?_
  exact retZ_Bg (g := isZ t6.1) rfl e fun e => (by rw [hR, ← Option.some.inj e])
set_option maxRecDepth 100000 in
theorem BJw_half (L : Nat) (xs : Nat → Int32) (v1 : Int32) (h : Wd) (o : Int32 × Wd) (e : Jw_half v1 h = some o) : Bg L xs 130 0 [(0, .ref 0), (1, .int v1)] [] (LAY h.1) h.2 ([.int o.1], LAY o.2.1, o.2.2) := by
  obtain ⟨R, hR⟩ : ∃ R : List Value × Lay × Hp, R = ([.int o.1], LAY o.2.1, o.2.2) := ⟨_, rfl⟩
  rw [← hR]
  refine seg_Bg (pc' := 3) (lv' := [(0, .ref 0), (1, .int v1)]) (st' := [.int 63, .ref 0]) (lay' := LAY h.1) (h' := h.2) 2 rfl ?_
  refine call_Bg (a := 129) (la := [(0, .ref 0), (1, .int 63)]) (np := 6) (lv' := [(0, .ref 0), (1, .int v1)]) (rest := []) (res := fun r => ([.int r.1], LAY r.2.1, r.2.2)) rfl e (fun r e => BJw_t L xs 63 h r e) (fun c1 e => ?_)
  show Bg L xs 130 6 [(0, .ref 0), (1, .int v1)] [.int c1.1] (LAY c1.2.1) c1.2.2 R
  refine seg_Bg (pc' := (if c1.1 = 0 then 22 else 9)) (lv' := [(0, .ref 0), (1, .int v1)]) (st' := []) (lay' := LAY c1.2.1) (h' := c1.2.2) 1 rfl ?_
  refine pc_ite e (fun e => ?_) (fun e => ?_)
  · refine seg_Bg (pc' := 23) (lv' := [(0, .ref 0), (1, .int v1)]) (st' := [.int 0]) (lay' := LAY c1.2.1) (h' := c1.2.2) 1 rfl ?_
    exact BJw_half_J23 L xs v1 0 c1.2 o e R hR
  · refine seg_Bg (pc' := 12) (lv' := [(0, .ref 0), (1, .int v1)]) (st' := [.int 98, .ref 0]) (lay' := LAY c1.2.1) (h' := c1.2.2) 2 rfl ?_
    refine call_Bg (a := 129) (la := [(0, .ref 0), (1, .int 98)]) (np := 15) (lv' := [(0, .ref 0), (1, .int v1)]) (rest := []) (res := fun r => ([.int r.1], LAY r.2.1, r.2.2)) rfl e (fun r e => BJw_t L xs 98 c1.2 r e) (fun c7 e => ?_)
    show Bg L xs 130 15 [(0, .ref 0), (1, .int v1)] [.int c7.1] (LAY c7.2.1) c7.2.2 R
    refine seg_Bg (pc' := (if c7.1 = 0 then 22 else 18)) (lv' := [(0, .ref 0), (1, .int v1)]) (st' := []) (lay' := LAY c7.2.1) (h' := c7.2.2) 1 rfl ?_
    refine pc_ite e (fun e => ?_) (fun e => ?_)
    · refine seg_Bg (pc' := 23) (lv' := [(0, .ref 0), (1, .int v1)]) (st' := [.int 0]) (lay' := LAY c7.2.1) (h' := c7.2.2) 1 rfl ?_
      exact BJw_half_J23 L xs v1 0 c7.2 o e R hR
    · refine seg_Bg (pc' := 23) (lv' := [(0, .ref 0), (1, .int v1)]) (st' := [.int 1]) (lay' := LAY c7.2.1) (h' := c7.2.2) 2 rfl ?_
      exact BJw_half_J23 L xs v1 1 c7.2 o e R hR

set_option maxRecDepth 100000 in
theorem BJw_told (L : Nat) (xs : Nat → Int32) (v1 : Int32) (v2 : Int32) (h : Wd) (o : Int32 × Wd) (e : Jw_told v1 v2 h = some o) : Bg L xs 131 0 [(0, .ref 0), (1, .int v1), (2, .int v2)] [] (LAY h.1) h.2 ([.int o.1], LAY o.2.1, o.2.2) := by
  obtain ⟨R, hR⟩ : ∃ R : List Value × Lay × Hp, R = ([.int o.1], LAY o.2.1, o.2.2) := ⟨_, rfl⟩
  rw [← hR]
  refine seg_Bg (pc' := 3) (lv' := [(0, .ref 0), (1, .int v1), (2, .int v2)]) (st' := [.int 63, .ref 0]) (lay' := LAY h.1) (h' := h.2) 2 rfl ?_
  refine call_Bg (a := 129) (la := [(0, .ref 0), (1, .int 63)]) (np := 6) (lv' := [(0, .ref 0), (1, .int v1), (2, .int v2)]) (rest := []) (res := fun r => ([.int r.1], LAY r.2.1, r.2.2)) rfl e (fun r e => BJw_t L xs 63 h r e) (fun c1 e => ?_)
  show Bg L xs 131 6 [(0, .ref 0), (1, .int v1), (2, .int v2)] [.int c1.1] (LAY c1.2.1) c1.2.2 R
  refine seg_Bg (pc' := (if c1.1 = 0 then 61 else 9)) (lv' := [(0, .ref 0), (1, .int v1), (2, .int v2)]) (st' := []) (lay' := LAY c1.2.1) (h' := c1.2.2) 1 rfl ?_
  refine pc_ite e (fun e => ?_) (fun e => ?_)
  · refine seg_Bg (pc' := 62) (lv' := [(0, .ref 0), (1, .int v1), (2, .int v2)]) (st' := [.int 0]) (lay' := LAY c1.2.1) (h' := c1.2.2) 1 rfl ?_
    rw [hR, ← Option.some.inj e]; exact ret_Bg rfl
  · refine seg_Bg (pc' := 12) (lv' := [(0, .ref 0), (1, .int v1), (2, .int v2)]) (st' := [.int 97, .ref 0]) (lay' := LAY c1.2.1) (h' := c1.2.2) 2 rfl ?_
    refine call_Bg (a := 129) (la := [(0, .ref 0), (1, .int 97)]) (np := 15) (lv' := [(0, .ref 0), (1, .int v1), (2, .int v2)]) (rest := []) (res := fun r => ([.int r.1], LAY r.2.1, r.2.2)) rfl e (fun r e => BJw_t L xs 97 c1.2 r e) (fun c2 e => ?_)
    show Bg L xs 131 15 [(0, .ref 0), (1, .int v1), (2, .int v2)] [.int c2.1] (LAY c2.2.1) c2.2.2 R
    refine seg_Bg (pc' := (if c2.1 = 0 then 61 else 18)) (lv' := [(0, .ref 0), (1, .int v1), (2, .int v2)]) (st' := []) (lay' := LAY c2.2.1) (h' := c2.2.2) 1 rfl ?_
    refine pc_ite e (fun e => ?_) (fun e => ?_)
    · refine seg_Bg (pc' := 62) (lv' := [(0, .ref 0), (1, .int v1), (2, .int v2)]) (st' := [.int 0]) (lay' := LAY c2.2.1) (h' := c2.2.2) 1 rfl ?_
      rw [hR, ← Option.some.inj e]; exact ret_Bg rfl
    · refine seg_Bg (pc' := 22) (lv' := [(0, .ref 0), (1, .int v1), (2, .int v2)]) (st' := [.int (v1 >>> (4 &&& 31) : Int32), .ref 0]) (lay' := LAY c2.2.1) (h' := c2.2.2) 4 rfl ?_
      refine call_Bg (a := 130) (la := [(0, .ref 0), (1, .int (v1 >>> (4 &&& 31) : Int32))]) (np := 25) (lv' := [(0, .ref 0), (1, .int v1), (2, .int v2)]) (rest := []) (res := fun r => ([.int r.1], LAY r.2.1, r.2.2)) rfl e (fun r e => BJw_half L xs (v1 >>> (4 &&& 31) : Int32) c2.2 r e) (fun c3 e => ?_)
      show Bg L xs 131 25 [(0, .ref 0), (1, .int v1), (2, .int v2)] [.int c3.1] (LAY c3.2.1) c3.2.2 R
      refine seg_Bg (pc' := (if c3.1 = 0 then 61 else 28)) (lv' := [(0, .ref 0), (1, .int v1), (2, .int v2)]) (st' := []) (lay' := LAY c3.2.1) (h' := c3.2.2) 1 rfl ?_
      refine pc_ite e (fun e => ?_) (fun e => ?_)
      · refine seg_Bg (pc' := 62) (lv' := [(0, .ref 0), (1, .int v1), (2, .int v2)]) (st' := [.int 0]) (lay' := LAY c3.2.1) (h' := c3.2.2) 1 rfl ?_
        rw [hR, ← Option.some.inj e]; exact ret_Bg rfl
      · refine seg_Bg (pc' := 33) (lv' := [(0, .ref 0), (1, .int v1), (2, .int v2)]) (st' := [.int (v1 &&& (15 : Int32)), .ref 0]) (lay' := LAY c3.2.1) (h' := c3.2.2) 4 rfl ?_
        refine call_Bg (a := 130) (la := [(0, .ref 0), (1, .int (v1 &&& (15 : Int32)))]) (np := 36) (lv' := [(0, .ref 0), (1, .int v1), (2, .int v2)]) (rest := []) (res := fun r => ([.int r.1], LAY r.2.1, r.2.2)) rfl e (fun r e => BJw_half L xs (v1 &&& (15 : Int32)) c3.2 r e) (fun c4 e => ?_)
        show Bg L xs 131 36 [(0, .ref 0), (1, .int v1), (2, .int v2)] [.int c4.1] (LAY c4.2.1) c4.2.2 R
        refine seg_Bg (pc' := (if c4.1 = 0 then 61 else 39)) (lv' := [(0, .ref 0), (1, .int v1), (2, .int v2)]) (st' := []) (lay' := LAY c4.2.1) (h' := c4.2.2) 1 rfl ?_
        refine pc_ite e (fun e => ?_) (fun e => ?_)
        · refine seg_Bg (pc' := 62) (lv' := [(0, .ref 0), (1, .int v1), (2, .int v2)]) (st' := [.int 0]) (lay' := LAY c4.2.1) (h' := c4.2.2) 1 rfl ?_
          rw [hR, ← Option.some.inj e]; exact ret_Bg rfl
        · refine seg_Bg (pc' := 40) (lv' := [(0, .ref 0), (1, .int v1), (2, .int v2)]) (st' := [.ref 0]) (lay' := LAY c4.2.1) (h' := c4.2.2) 1 rfl ?_
          refine call_Bg (a := 113) (la := [(0, .ref 0)]) (np := 43) (lv' := [(0, .ref 0), (1, .int v1), (2, .int v2)]) (rest := []) (res := fun r => ([.int r.1], LAY r.2.1, r.2.2)) rfl e (fun r e => BOo_tell L xs c4.2 r e) (fun c5 e => ?_)
          show Bg L xs 131 43 [(0, .ref 0), (1, .int v1), (2, .int v2)] [.int c5.1] (LAY c5.2.1) c5.2.2 R
          refine seg_Bg (pc' := (if c5.1 = v2 then 47 else 61)) (lv' := [(0, .ref 0), (1, .int v1), (2, .int v2)]) (st' := []) (lay' := LAY c5.2.1) (h' := c5.2.2) 2 rfl ?_
          refine pc_ite e (fun e => ?_) (fun e => ?_)
          · refine seg_Bg (pc' := 50) (lv' := [(0, .ref 0), (1, .int v1), (2, .int v2)]) (st' := [.int 0, .int v2, .ref 0]) (lay' := LAY c5.2.1) (h' := c5.2.2) 3 rfl ?_
            refine call_Bg (a := 115) (la := [(0, .ref 0), (1, .int v2), (2, .int 0)]) (np := 53) (lv' := [(0, .ref 0), (1, .int v1), (2, .int v2)]) (rest := []) (res := fun r => ([.int r.1], LAY r.2.1, r.2.2)) rfl e (fun r e => BOo_function L xs v2 0 c5.2 r e) (fun c6 e => ?_)
            show Bg L xs 131 53 [(0, .ref 0), (1, .int v1), (2, .int v2)] [.int c6.1] (LAY c6.2.1) c6.2.2 R
            refine seg_Bg (pc' := (if c6.1 = v1 then 57 else 61)) (lv' := [(0, .ref 0), (1, .int v1), (2, .int v2)]) (st' := []) (lay' := LAY c6.2.1) (h' := c6.2.2) 2 rfl ?_
            refine pc_ite e (fun e => ?_) (fun e => ?_)
            · refine seg_Bg (pc' := 62) (lv' := [(0, .ref 0), (1, .int v1), (2, .int v2)]) (st' := [.int 1]) (lay' := LAY c6.2.1) (h' := c6.2.2) 2 rfl ?_
              rw [hR, ← Option.some.inj e]; exact ret_Bg rfl
            · refine seg_Bg (pc' := 62) (lv' := [(0, .ref 0), (1, .int v1), (2, .int v2)]) (st' := [.int 0]) (lay' := LAY c6.2.1) (h' := c6.2.2) 1 rfl ?_
              rw [hR, ← Option.some.inj e]; exact ret_Bg rfl
          · refine seg_Bg (pc' := 62) (lv' := [(0, .ref 0), (1, .int v1), (2, .int v2)]) (st' := [.int 0]) (lay' := LAY c5.2.1) (h' := c5.2.2) 1 rfl ?_
            rw [hR, ← Option.some.inj e]; exact ret_Bg rfl

set_option maxRecDepth 100000 in
theorem BJw_t_1 (L : Nat) (xs : Nat → Int32) (v1 : Int32) (h : Wd) (o : Int32 × Wd) (e : Jw_t_1 v1 h = some o) : Bg L xs 129 0 [(0, .ref 37), (1, .int v1)] [] (LAY h.1) h.2 ([.int o.1], LAY o.2.1, o.2.2) := by
  obtain ⟨R, hR⟩ : ∃ R : List Value × Lay × Hp, R = ([.int o.1], LAY o.2.1, o.2.2) := ⟨_, rfl⟩
  rw [← hR]
  refine seg_Bg (pc' := 2) (lv' := [(0, .ref 37), (1, .int v1)]) (st' := [.int v1, .ref 37]) (lay' := LAY h.1) (h' := h.2) 2 rfl ?_
  refine call_Bg (a := 112) (la := [(0, .ref 37), (1, .int v1)]) (np := 5) (lv' := [(0, .ref 37), (1, .int v1)]) (rest := []) (res := fun r => ([.int r.1], LAY r.2.1, r.2.2)) rfl e (fun r e => BOq_feed L xs v1 h r e) (fun c1 e => ?_)
  show Bg L xs 129 5 [(0, .ref 37), (1, .int v1)] [.int c1.1] (LAY c1.2.1) c1.2.2 R
  refine seg_Bg (pc' := (if 0 < c1.1 then 8 else 12)) (lv' := [(0, .ref 37), (1, .int v1)]) (st' := []) (lay' := LAY c1.2.1) (h' := c1.2.2) 1 rfl ?_
  refine pc_ite e (fun e => ?_) (fun e => ?_)
  · refine seg_Bg (pc' := 13) (lv' := [(0, .ref 37), (1, .int v1)]) (st' := [.int 1]) (lay' := LAY c1.2.1) (h' := c1.2.2) 2 rfl ?_
    rw [hR, ← Option.some.inj e]; exact ret_Bg rfl
  · refine seg_Bg (pc' := 13) (lv' := [(0, .ref 37), (1, .int v1)]) (st' := [.int 0]) (lay' := LAY c1.2.1) (h' := c1.2.2) 1 rfl ?_
    rw [hR, ← Option.some.inj e]; exact ret_Bg rfl

set_option maxRecDepth 100000 in
theorem BJw_half_1_L26_s (L : Nat) (xs : Nat → Int32) (v1 : Int32) (R : List Value × Lay × Hp) (v2 v3 : Int32) (h : Wd) (o : ((Int32 × Int32 × Wd) ⊕ (Int32 × Int32 × Wd))) (hH : ∀ s : Int32 × Int32 × Wd, o = .inl s → Bg L xs 130 26 [(0, .ref 37), (1, .int v1), (2, .int s.1), (3, .int s.2.1)] [] (LAY s.2.2.1) s.2.2.2 R) (hE : ∀ t : Int32 × Int32 × Wd, o = .inr t → Bg L xs 130 100 [(0, .ref 37), (1, .int v1), (2, .int t.1), (3, .int t.2.1)] [] (LAY t.2.2.1) t.2.2.2 R) (e : Jw_half_1_L26 v1 v2 v3 h = some o) : Bg L xs 130 26 [(0, .ref 37), (1, .int v1), (2, .int v2), (3, .int v3)] [] (LAY h.1) h.2 R := by
  refine seg_Bg (pc' := (if v3 < 0 then 100 else 30)) (lv' := [(0, .ref 37), (1, .int v1), (2, .int v2), (3, .int v3)]) (st' := []) (lay' := LAY h.1) (h' := h.2) 2 rfl ?_
  refine pc_ite e (fun e => ?_) (fun e => ?_)
  · exact hE (v2, v3, h) (Option.some.inj e).symm
  · refine seg_Bg (pc' := (if v2 = 0 then 92 else 34)) (lv' := [(0, .ref 37), (1, .int v1), (2, .int v2), (3, .int v3)]) (st' := []) (lay' := LAY h.1) (h' := h.2) 2 rfl ?_
    refine pc_ite e (fun e => ?_) (fun e => ?_)
    · refine seg_Bg (pc' := 26) (lv' := [(0, .ref 37), (1, .int v1), (2, .int 0), (3, .int (v3 + (-1)))]) (st' := []) (lay' := LAY h.1) (h' := h.2) 4 rfl ?_
      exact hH (0, v3 + (-1), h) (Option.some.inj e).symm
    · refine seg_Bg (pc' := 37) (lv' := [(0, .ref 37), (1, .int v1), (2, .int v2), (3, .int v3)]) (st' := [.int 63, .ref 37]) (lay' := LAY h.1) (h' := h.2) 2 rfl ?_
      refine call_Bg (a := 129) (la := [(0, .ref 37), (1, .int 63)]) (np := 40) (lv' := [(0, .ref 37), (1, .int v1), (2, .int v2), (3, .int v3)]) (rest := []) (res := fun r => ([.int r.1], LAY r.2.1, r.2.2)) rfl e (fun r e => BJw_t_1 L xs 63 h r e) (fun c2 e => ?_)
      show Bg L xs 130 40 [(0, .ref 37), (1, .int v1), (2, .int v2), (3, .int v3)] [.int c2.1] (LAY c2.2.1) c2.2.2 R
      refine seg_Bg (pc' := (if c2.1 = 0 then 92 else 43)) (lv' := [(0, .ref 37), (1, .int v1), (2, .int v2), (3, .int v3)]) (st' := []) (lay' := LAY c2.2.1) (h' := c2.2.2) 1 rfl ?_
      refine pc_ite e (fun e => ?_) (fun e => ?_)
      · refine seg_Bg (pc' := 26) (lv' := [(0, .ref 37), (1, .int v1), (2, .int 0), (3, .int (v3 + (-1)))]) (st' := []) (lay' := LAY c2.2.1) (h' := c2.2.2) 4 rfl ?_
        exact hH (0, v3 + (-1), c2.2) (Option.some.inj e).symm
      · refine seg_Bg (pc' := 46) (lv' := [(0, .ref 37), (1, .int v1), (2, .int v2), (3, .int v3)]) (st' := [.int 99, .ref 37]) (lay' := LAY c2.2.1) (h' := c2.2.2) 2 rfl ?_
        refine call_Bg (a := 129) (la := [(0, .ref 37), (1, .int 99)]) (np := 49) (lv' := [(0, .ref 37), (1, .int v1), (2, .int v2), (3, .int v3)]) (rest := []) (res := fun r => ([.int r.1], LAY r.2.1, r.2.2)) rfl e (fun r e => BJw_t_1 L xs 99 c2.2 r e) (fun c3 e => ?_)
        show Bg L xs 130 49 [(0, .ref 37), (1, .int v1), (2, .int v2), (3, .int v3)] [.int c3.1] (LAY c3.2.1) c3.2.2 R
        refine seg_Bg (pc' := (if c3.1 = 0 then 92 else 52)) (lv' := [(0, .ref 37), (1, .int v1), (2, .int v2), (3, .int v3)]) (st' := []) (lay' := LAY c3.2.1) (h' := c3.2.2) 1 rfl ?_
        refine pc_ite e (fun e => ?_) (fun e => ?_)
        · refine seg_Bg (pc' := 26) (lv' := [(0, .ref 37), (1, .int v1), (2, .int 0), (3, .int (v3 + (-1)))]) (st' := []) (lay' := LAY c3.2.1) (h' := c3.2.2) 4 rfl ?_
          exact hH (0, v3 + (-1), c3.2) (Option.some.inj e).symm
        · refine seg_Bg (pc' := 65) (lv' := [(0, .ref 37), (1, .int v1), (2, .int v2), (3, .int v3)]) (st' := [.int ((48 : Int32) + ((v1 >>> ((((2 : Int32) * v3) + (1 : Int32)) &&& 31) : Int32) &&& (1 : Int32))), .ref 37]) (lay' := LAY c3.2.1) (h' := c3.2.2) 12 rfl ?_
          refine call_Bg (a := 129) (la := [(0, .ref 37), (1, .int ((48 : Int32) + ((v1 >>> ((((2 : Int32) * v3) + (1 : Int32)) &&& 31) : Int32) &&& (1 : Int32))))]) (np := 68) (lv' := [(0, .ref 37), (1, .int v1), (2, .int v2), (3, .int v3)]) (rest := []) (res := fun r => ([.int r.1], LAY r.2.1, r.2.2)) rfl e (fun r e => BJw_t_1 L xs ((48 : Int32) + ((v1 >>> ((((2 : Int32) * v3) + (1 : Int32)) &&& 31) : Int32) &&& (1 : Int32))) c3.2 r e) (fun c4 e => ?_)
          show Bg L xs 130 68 [(0, .ref 37), (1, .int v1), (2, .int v2), (3, .int v3)] [.int c4.1] (LAY c4.2.1) c4.2.2 R
          refine seg_Bg (pc' := (if c4.1 = 0 then 92 else 71)) (lv' := [(0, .ref 37), (1, .int v1), (2, .int v2), (3, .int v3)]) (st' := []) (lay' := LAY c4.2.1) (h' := c4.2.2) 1 rfl ?_
          refine pc_ite e (fun e => ?_) (fun e => ?_)
          · refine seg_Bg (pc' := 26) (lv' := [(0, .ref 37), (1, .int v1), (2, .int 0), (3, .int (v3 + (-1)))]) (st' := []) (lay' := LAY c4.2.1) (h' := c4.2.2) 4 rfl ?_
            exact hH (0, v3 + (-1), c4.2) (Option.some.inj e).symm
          · refine seg_Bg (pc' := 82) (lv' := [(0, .ref 37), (1, .int v1), (2, .int v2), (3, .int v3)]) (st' := [.int ((48 : Int32) + ((v1 >>> (((2 : Int32) * v3) &&& 31) : Int32) &&& (1 : Int32))), .ref 37]) (lay' := LAY c4.2.1) (h' := c4.2.2) 10 rfl ?_
            refine call_Bg (a := 129) (la := [(0, .ref 37), (1, .int ((48 : Int32) + ((v1 >>> (((2 : Int32) * v3) &&& 31) : Int32) &&& (1 : Int32))))]) (np := 85) (lv' := [(0, .ref 37), (1, .int v1), (2, .int v2), (3, .int v3)]) (rest := []) (res := fun r => ([.int r.1], LAY r.2.1, r.2.2)) rfl e (fun r e => BJw_t_1 L xs ((48 : Int32) + ((v1 >>> (((2 : Int32) * v3) &&& 31) : Int32) &&& (1 : Int32))) c4.2 r e) (fun c5 e => ?_)
            show Bg L xs 130 85 [(0, .ref 37), (1, .int v1), (2, .int v2), (3, .int v3)] [.int c5.1] (LAY c5.2.1) c5.2.2 R
            refine seg_Bg (pc' := (if c5.1 = 0 then 92 else 88)) (lv' := [(0, .ref 37), (1, .int v1), (2, .int v2), (3, .int v3)]) (st' := []) (lay' := LAY c5.2.1) (h' := c5.2.2) 1 rfl ?_
            refine pc_ite e (fun e => ?_) (fun e => ?_)
            · refine seg_Bg (pc' := 26) (lv' := [(0, .ref 37), (1, .int v1), (2, .int 0), (3, .int (v3 + (-1)))]) (st' := []) (lay' := LAY c5.2.1) (h' := c5.2.2) 4 rfl ?_
              exact hH (0, v3 + (-1), c5.2) (Option.some.inj e).symm
            · refine seg_Bg (pc' := 26) (lv' := [(0, .ref 37), (1, .int v1), (2, .int 1), (3, .int (v3 + (-1)))]) (st' := []) (lay' := LAY c5.2.1) (h' := c5.2.2) 5 rfl ?_
              exact hH (1, v3 + (-1), c5.2) (Option.some.inj e).symm
theorem BJw_half_1_L26 (L : Nat) (xs : Nat → Int32) (v1 : Int32) (R : List Value × Lay × Hp) (C : (Int32 × Int32 × Wd) → Prop) (hE : ∀ t : Int32 × Int32 × Wd, C t → Bg L xs 130 100 [(0, .ref 37), (1, .int v1), (2, .int t.1), (3, .int t.2.1)] [] (LAY t.2.2.1) t.2.2.2 R) (n : Nat) (s : Int32 × Int32 × Wd) (o : (Int32 × Int32 × Wd)) (e : loopN n (fun s => Jw_half_1_L26 v1 s.1 s.2.1 s.2.2) s = some o) (hC : C o) : Bg L xs 130 26 [(0, .ref 37), (1, .int v1), (2, .int s.1), (3, .int s.2.1)] [] (LAY s.2.2.1) s.2.2.2 R := by
  refine loop_B (fun s => Jw_half_1_L26 v1 s.1 s.2.1 s.2.2) (fun s : Int32 × Int32 × Wd => Bg L xs 130 26 [(0, .ref 37), (1, .int v1), (2, .int s.1), (3, .int s.2.1)] [] (LAY s.2.2.1) s.2.2.2 R) C (fun s o e => ?_) n s o e hC
  intro hK
  refine BJw_half_1_L26_s L xs v1 R s.1 s.2.1 s.2.2 o (fun s q => by subst q; exact hK) (fun t q => by subst q; exact hE t hK) e
set_option maxRecDepth 100000 in
theorem BJw_half_1_J23 (L : Nat) (xs : Nat → Int32) (v1 s0 : Int32) (h : Wd) (o : (Int32 × Wd)) (e : Jw_half_1_J23 v1 s0 h = some o) (R : List Value × Lay × Hp) (hR : R = ([.int o.1], LAY o.2.1, o.2.2)) : Bg L xs 130 23 [(0, .ref 37), (1, .int v1)] [.int s0] (LAY h.1) h.2 R := by
  refine seg_Bg (pc' := 26) (lv' := [(0, .ref 37), (1, .int v1), (2, .int s0), (3, .int 1)]) (st' := []) (lay' := LAY h.1) (h' := h.2) 3 rfl ?_
  obtain ⟨t6o, et6o, e⟩ := bd_s e
  refine BJw_half_1_L26 L xs v1 R (fun (t6 : Int32 × Int32 × Wd) => (bif isZ t6.1 then some (t6.1, t6.2.2) else none) = some o) (fun t6 e => ?_) 1000000 (s0, 1, h) _ et6o e
  refine seg_Bg (pc' := 101) (lv' := [(0, .ref 37), (1, .int v1), (2, .int t6.1), (3, .int t6.2.1)]) (st' := [.int t6.1]) (lay' := LAY t6.2.2.1) (h' := t6.2.2.2) 1 rfl ?_
  exact retZ_Bg (g := isZ t6.1) rfl e fun e => (by rw [hR, ← Option.some.inj e])
set_option maxRecDepth 100000 in
theorem BJw_half_1 (L : Nat) (xs : Nat → Int32) (v1 : Int32) (h : Wd) (o : Int32 × Wd) (e : Jw_half_1 v1 h = some o) : Bg L xs 130 0 [(0, .ref 37), (1, .int v1)] [] (LAY h.1) h.2 ([.int o.1], LAY o.2.1, o.2.2) := by
  obtain ⟨R, hR⟩ : ∃ R : List Value × Lay × Hp, R = ([.int o.1], LAY o.2.1, o.2.2) := ⟨_, rfl⟩
  rw [← hR]
  refine seg_Bg (pc' := 3) (lv' := [(0, .ref 37), (1, .int v1)]) (st' := [.int 63, .ref 37]) (lay' := LAY h.1) (h' := h.2) 2 rfl ?_
  refine call_Bg (a := 129) (la := [(0, .ref 37), (1, .int 63)]) (np := 6) (lv' := [(0, .ref 37), (1, .int v1)]) (rest := []) (res := fun r => ([.int r.1], LAY r.2.1, r.2.2)) rfl e (fun r e => BJw_t_1 L xs 63 h r e) (fun c1 e => ?_)
  show Bg L xs 130 6 [(0, .ref 37), (1, .int v1)] [.int c1.1] (LAY c1.2.1) c1.2.2 R
  refine seg_Bg (pc' := (if c1.1 = 0 then 22 else 9)) (lv' := [(0, .ref 37), (1, .int v1)]) (st' := []) (lay' := LAY c1.2.1) (h' := c1.2.2) 1 rfl ?_
  refine pc_ite e (fun e => ?_) (fun e => ?_)
  · refine seg_Bg (pc' := 23) (lv' := [(0, .ref 37), (1, .int v1)]) (st' := [.int 0]) (lay' := LAY c1.2.1) (h' := c1.2.2) 1 rfl ?_
    exact BJw_half_1_J23 L xs v1 0 c1.2 o e R hR
  · refine seg_Bg (pc' := 12) (lv' := [(0, .ref 37), (1, .int v1)]) (st' := [.int 98, .ref 37]) (lay' := LAY c1.2.1) (h' := c1.2.2) 2 rfl ?_
    refine call_Bg (a := 129) (la := [(0, .ref 37), (1, .int 98)]) (np := 15) (lv' := [(0, .ref 37), (1, .int v1)]) (rest := []) (res := fun r => ([.int r.1], LAY r.2.1, r.2.2)) rfl e (fun r e => BJw_t_1 L xs 98 c1.2 r e) (fun c7 e => ?_)
    show Bg L xs 130 15 [(0, .ref 37), (1, .int v1)] [.int c7.1] (LAY c7.2.1) c7.2.2 R
    refine seg_Bg (pc' := (if c7.1 = 0 then 22 else 18)) (lv' := [(0, .ref 37), (1, .int v1)]) (st' := []) (lay' := LAY c7.2.1) (h' := c7.2.2) 1 rfl ?_
    refine pc_ite e (fun e => ?_) (fun e => ?_)
    · refine seg_Bg (pc' := 23) (lv' := [(0, .ref 37), (1, .int v1)]) (st' := [.int 0]) (lay' := LAY c7.2.1) (h' := c7.2.2) 1 rfl ?_
      exact BJw_half_1_J23 L xs v1 0 c7.2 o e R hR
    · refine seg_Bg (pc' := 23) (lv' := [(0, .ref 37), (1, .int v1)]) (st' := [.int 1]) (lay' := LAY c7.2.1) (h' := c7.2.2) 2 rfl ?_
      exact BJw_half_1_J23 L xs v1 1 c7.2 o e R hR

set_option maxRecDepth 100000 in
theorem BJw_told_1 (L : Nat) (xs : Nat → Int32) (v1 : Int32) (v2 : Int32) (h : Wd) (o : Int32 × Wd) (e : Jw_told_1 v1 v2 h = some o) : Bg L xs 131 0 [(0, .ref 37), (1, .int v1), (2, .int v2)] [] (LAY h.1) h.2 ([.int o.1], LAY o.2.1, o.2.2) := by
  obtain ⟨R, hR⟩ : ∃ R : List Value × Lay × Hp, R = ([.int o.1], LAY o.2.1, o.2.2) := ⟨_, rfl⟩
  rw [← hR]
  refine seg_Bg (pc' := 3) (lv' := [(0, .ref 37), (1, .int v1), (2, .int v2)]) (st' := [.int 63, .ref 37]) (lay' := LAY h.1) (h' := h.2) 2 rfl ?_
  refine call_Bg (a := 129) (la := [(0, .ref 37), (1, .int 63)]) (np := 6) (lv' := [(0, .ref 37), (1, .int v1), (2, .int v2)]) (rest := []) (res := fun r => ([.int r.1], LAY r.2.1, r.2.2)) rfl e (fun r e => BJw_t_1 L xs 63 h r e) (fun c1 e => ?_)
  show Bg L xs 131 6 [(0, .ref 37), (1, .int v1), (2, .int v2)] [.int c1.1] (LAY c1.2.1) c1.2.2 R
  refine seg_Bg (pc' := (if c1.1 = 0 then 61 else 9)) (lv' := [(0, .ref 37), (1, .int v1), (2, .int v2)]) (st' := []) (lay' := LAY c1.2.1) (h' := c1.2.2) 1 rfl ?_
  refine pc_ite e (fun e => ?_) (fun e => ?_)
  · refine seg_Bg (pc' := 62) (lv' := [(0, .ref 37), (1, .int v1), (2, .int v2)]) (st' := [.int 0]) (lay' := LAY c1.2.1) (h' := c1.2.2) 1 rfl ?_
    rw [hR, ← Option.some.inj e]; exact ret_Bg rfl
  · refine seg_Bg (pc' := 12) (lv' := [(0, .ref 37), (1, .int v1), (2, .int v2)]) (st' := [.int 97, .ref 37]) (lay' := LAY c1.2.1) (h' := c1.2.2) 2 rfl ?_
    refine call_Bg (a := 129) (la := [(0, .ref 37), (1, .int 97)]) (np := 15) (lv' := [(0, .ref 37), (1, .int v1), (2, .int v2)]) (rest := []) (res := fun r => ([.int r.1], LAY r.2.1, r.2.2)) rfl e (fun r e => BJw_t_1 L xs 97 c1.2 r e) (fun c2 e => ?_)
    show Bg L xs 131 15 [(0, .ref 37), (1, .int v1), (2, .int v2)] [.int c2.1] (LAY c2.2.1) c2.2.2 R
    refine seg_Bg (pc' := (if c2.1 = 0 then 61 else 18)) (lv' := [(0, .ref 37), (1, .int v1), (2, .int v2)]) (st' := []) (lay' := LAY c2.2.1) (h' := c2.2.2) 1 rfl ?_
    refine pc_ite e (fun e => ?_) (fun e => ?_)
    · refine seg_Bg (pc' := 62) (lv' := [(0, .ref 37), (1, .int v1), (2, .int v2)]) (st' := [.int 0]) (lay' := LAY c2.2.1) (h' := c2.2.2) 1 rfl ?_
      rw [hR, ← Option.some.inj e]; exact ret_Bg rfl
    · refine seg_Bg (pc' := 22) (lv' := [(0, .ref 37), (1, .int v1), (2, .int v2)]) (st' := [.int (v1 >>> (4 &&& 31) : Int32), .ref 37]) (lay' := LAY c2.2.1) (h' := c2.2.2) 4 rfl ?_
      refine call_Bg (a := 130) (la := [(0, .ref 37), (1, .int (v1 >>> (4 &&& 31) : Int32))]) (np := 25) (lv' := [(0, .ref 37), (1, .int v1), (2, .int v2)]) (rest := []) (res := fun r => ([.int r.1], LAY r.2.1, r.2.2)) rfl e (fun r e => BJw_half_1 L xs (v1 >>> (4 &&& 31) : Int32) c2.2 r e) (fun c3 e => ?_)
      show Bg L xs 131 25 [(0, .ref 37), (1, .int v1), (2, .int v2)] [.int c3.1] (LAY c3.2.1) c3.2.2 R
      refine seg_Bg (pc' := (if c3.1 = 0 then 61 else 28)) (lv' := [(0, .ref 37), (1, .int v1), (2, .int v2)]) (st' := []) (lay' := LAY c3.2.1) (h' := c3.2.2) 1 rfl ?_
      refine pc_ite e (fun e => ?_) (fun e => ?_)
      · refine seg_Bg (pc' := 62) (lv' := [(0, .ref 37), (1, .int v1), (2, .int v2)]) (st' := [.int 0]) (lay' := LAY c3.2.1) (h' := c3.2.2) 1 rfl ?_
        rw [hR, ← Option.some.inj e]; exact ret_Bg rfl
      · refine seg_Bg (pc' := 33) (lv' := [(0, .ref 37), (1, .int v1), (2, .int v2)]) (st' := [.int (v1 &&& (15 : Int32)), .ref 37]) (lay' := LAY c3.2.1) (h' := c3.2.2) 4 rfl ?_
        refine call_Bg (a := 130) (la := [(0, .ref 37), (1, .int (v1 &&& (15 : Int32)))]) (np := 36) (lv' := [(0, .ref 37), (1, .int v1), (2, .int v2)]) (rest := []) (res := fun r => ([.int r.1], LAY r.2.1, r.2.2)) rfl e (fun r e => BJw_half_1 L xs (v1 &&& (15 : Int32)) c3.2 r e) (fun c4 e => ?_)
        show Bg L xs 131 36 [(0, .ref 37), (1, .int v1), (2, .int v2)] [.int c4.1] (LAY c4.2.1) c4.2.2 R
        refine seg_Bg (pc' := (if c4.1 = 0 then 61 else 39)) (lv' := [(0, .ref 37), (1, .int v1), (2, .int v2)]) (st' := []) (lay' := LAY c4.2.1) (h' := c4.2.2) 1 rfl ?_
        refine pc_ite e (fun e => ?_) (fun e => ?_)
        · refine seg_Bg (pc' := 62) (lv' := [(0, .ref 37), (1, .int v1), (2, .int v2)]) (st' := [.int 0]) (lay' := LAY c4.2.1) (h' := c4.2.2) 1 rfl ?_
          rw [hR, ← Option.some.inj e]; exact ret_Bg rfl
        · refine seg_Bg (pc' := 40) (lv' := [(0, .ref 37), (1, .int v1), (2, .int v2)]) (st' := [.ref 37]) (lay' := LAY c4.2.1) (h' := c4.2.2) 1 rfl ?_
          refine call_Bg (a := 113) (la := [(0, .ref 37)]) (np := 43) (lv' := [(0, .ref 37), (1, .int v1), (2, .int v2)]) (rest := []) (res := fun r => ([.int r.1], LAY r.2.1, r.2.2)) rfl e (fun r e => BOq_tell L xs c4.2 r e) (fun c5 e => ?_)
          show Bg L xs 131 43 [(0, .ref 37), (1, .int v1), (2, .int v2)] [.int c5.1] (LAY c5.2.1) c5.2.2 R
          refine seg_Bg (pc' := (if c5.1 = v2 then 47 else 61)) (lv' := [(0, .ref 37), (1, .int v1), (2, .int v2)]) (st' := []) (lay' := LAY c5.2.1) (h' := c5.2.2) 2 rfl ?_
          refine pc_ite e (fun e => ?_) (fun e => ?_)
          · refine seg_Bg (pc' := 50) (lv' := [(0, .ref 37), (1, .int v1), (2, .int v2)]) (st' := [.int 0, .int v2, .ref 37]) (lay' := LAY c5.2.1) (h' := c5.2.2) 3 rfl ?_
            refine call_Bg (a := 115) (la := [(0, .ref 37), (1, .int v2), (2, .int 0)]) (np := 53) (lv' := [(0, .ref 37), (1, .int v1), (2, .int v2)]) (rest := []) (res := fun r => ([.int r.1], LAY r.2.1, r.2.2)) rfl e (fun r e => BOq_function L xs v2 0 c5.2 r e) (fun c6 e => ?_)
            show Bg L xs 131 53 [(0, .ref 37), (1, .int v1), (2, .int v2)] [.int c6.1] (LAY c6.2.1) c6.2.2 R
            refine seg_Bg (pc' := (if c6.1 = v1 then 57 else 61)) (lv' := [(0, .ref 37), (1, .int v1), (2, .int v2)]) (st' := []) (lay' := LAY c6.2.1) (h' := c6.2.2) 2 rfl ?_
            refine pc_ite e (fun e => ?_) (fun e => ?_)
            · refine seg_Bg (pc' := 62) (lv' := [(0, .ref 37), (1, .int v1), (2, .int v2)]) (st' := [.int 1]) (lay' := LAY c6.2.1) (h' := c6.2.2) 2 rfl ?_
              rw [hR, ← Option.some.inj e]; exact ret_Bg rfl
            · refine seg_Bg (pc' := 62) (lv' := [(0, .ref 37), (1, .int v1), (2, .int v2)]) (st' := [.int 0]) (lay' := LAY c6.2.1) (h' := c6.2.2) 1 rfl ?_
              rw [hR, ← Option.some.inj e]; exact ret_Bg rfl
          · refine seg_Bg (pc' := 62) (lv' := [(0, .ref 37), (1, .int v1), (2, .int v2)]) (st' := [.int 0]) (lay' := LAY c5.2.1) (h' := c5.2.2) 1 rfl ?_
            rw [hR, ← Option.some.inj e]; exact ret_Bg rfl

set_option maxRecDepth 100000 in
theorem BJw_putOn_L6_s (L : Nat) (xs : Nat → Int32) (v0 v1 v2 v3 : Int32) (lay : Lay) (h : Hp) (R : List Value × Lay × Hp) (v4 v5 : Int32) (o : ((Int32 × Int32) ⊕ (Int32 × Int32))) (hH : ∀ s : Int32 × Int32, o = .inl s → Bg L xs 133 6 [(0, .int v0), (1, .int v1), (2, .int v2), (3, .int v3), (4, .int s.1), (5, .int s.2)] [] lay h R) (hE : ∀ t : Int32 × Int32, o = .inr t → Bg L xs 133 59 [(0, .int v0), (1, .int v1), (2, .int v2), (3, .int v3), (4, .int t.1), (5, .int t.2)] [] lay h R) (e : Jw_putOn_L6 v0 v1 v2 v3 v4 v5 = some o) : Bg L xs 133 6 [(0, .int v0), (1, .int v1), (2, .int v2), (3, .int v3), (4, .int v4), (5, .int v5)] [] lay h R := by
  refine seg_Bg (pc' := (if v5 < 8 then 13 else 59)) (lv' := [(0, .int v0), (1, .int v1), (2, .int v2), (3, .int v3), (4, .int v4), (5, .int v5)]) (st' := []) (lay' := lay) (h' := h) 3 rfl ?_
  refine pc_ite e (fun e => ?_) (fun e => ?_)
  · refine seg_Bg (pc' := 6) (lv' := [(0, .int v0), (1, .int v1), (2, .int v2), (3, .int v3), (4, .int (v4 ||| (((v0 >>> ((((((v1 >>> (v5 &&& 31) : Int32) &&& (1 : Int32)) <<< (2 &&& 31) : Int32) ||| (((v2 >>> (v5 &&& 31) : Int32) &&& (1 : Int32)) <<< (1 &&& 31) : Int32)) ||| ((v3 >>> (v5 &&& 31) : Int32) &&& (1 : Int32))) &&& 31) : Int32) &&& (1 : Int32)) <<< (v5 &&& 31) : Int32))), (5, .int (v5 + 1)), (6, .int (((((v1 >>> (v5 &&& 31) : Int32) &&& (1 : Int32)) <<< (2 &&& 31) : Int32) ||| (((v2 >>> (v5 &&& 31) : Int32) &&& (1 : Int32)) <<< (1 &&& 31) : Int32)) ||| ((v3 >>> (v5 &&& 31) : Int32) &&& (1 : Int32))))]) (st' := []) (lay' := lay) (h' := h) 34 rfl ?_
    refine kp_Bg (lv' := [(0, .int v0), (1, .int v1), (2, .int v2), (3, .int v3), (4, .int (v4 ||| (((v0 >>> ((((((v1 >>> (v5 &&& 31) : Int32) &&& (1 : Int32)) <<< (2 &&& 31) : Int32) ||| (((v2 >>> (v5 &&& 31) : Int32) &&& (1 : Int32)) <<< (1 &&& 31) : Int32)) ||| ((v3 >>> (v5 &&& 31) : Int32) &&& (1 : Int32))) &&& 31) : Int32) &&& (1 : Int32)) <<< (v5 &&& 31) : Int32))), (5, .int (v5 + 1))]) rfl rfl ?_
    exact hH (v4 ||| (((v0 >>> ((((((v1 >>> (v5 &&& 31) : Int32) &&& (1 : Int32)) <<< (2 &&& 31) : Int32) ||| (((v2 >>> (v5 &&& 31) : Int32) &&& (1 : Int32)) <<< (1 &&& 31) : Int32)) ||| ((v3 >>> (v5 &&& 31) : Int32) &&& (1 : Int32))) &&& 31) : Int32) &&& (1 : Int32)) <<< (v5 &&& 31) : Int32), v5 + 1) (Option.some.inj e).symm
  · exact hE (v4, v5) (Option.some.inj e).symm
theorem BJw_putOn_L6 (L : Nat) (xs : Nat → Int32) (v0 v1 v2 v3 : Int32) (lay : Lay) (h : Hp) (R : List Value × Lay × Hp) (C : (Int32 × Int32) → Prop) (hE : ∀ t : Int32 × Int32, C t → Bg L xs 133 59 [(0, .int v0), (1, .int v1), (2, .int v2), (3, .int v3), (4, .int t.1), (5, .int t.2)] [] lay h R) (n : Nat) (s : Int32 × Int32) (o : (Int32 × Int32)) (e : loopN n (fun s => Jw_putOn_L6 v0 v1 v2 v3 s.1 s.2) s = some o) (hC : C o) : Bg L xs 133 6 [(0, .int v0), (1, .int v1), (2, .int v2), (3, .int v3), (4, .int s.1), (5, .int s.2)] [] lay h R := by
  refine loop_B (fun s => Jw_putOn_L6 v0 v1 v2 v3 s.1 s.2) (fun s : Int32 × Int32 => Bg L xs 133 6 [(0, .int v0), (1, .int v1), (2, .int v2), (3, .int v3), (4, .int s.1), (5, .int s.2)] [] lay h R) C (fun s o e => ?_) n s o e hC
  intro hK
  refine BJw_putOn_L6_s L xs v0 v1 v2 v3 lay h R s.1 s.2 o (fun s q => by subst q; exact hK) (fun t q => by subst q; exact hE t hK) e
set_option maxRecDepth 100000 in
theorem BJw_putOn (L : Nat) (xs : Nat → Int32) (v0 : Int32) (v1 : Int32) (v2 : Int32) (v3 : Int32) (lay : Lay) (h : Hp) (o : Int32) (e : Jw_putOn v0 v1 v2 v3 = some o) : Bg L xs 133 0 [(0, .int v0), (1, .int v1), (2, .int v2), (3, .int v3)] [] lay h ([.int o], lay, h) := by
  obtain ⟨R, hR⟩ : ∃ R : List Value × Lay × Hp, R = ([.int o], lay, h) := ⟨_, rfl⟩
  rw [← hR]
  refine seg_Bg (pc' := 6) (lv' := [(0, .int v0), (1, .int v1), (2, .int v2), (3, .int v3), (4, .int 0), (5, .int 0)]) (st' := []) (lay' := lay) (h' := h) 4 rfl ?_
  obtain ⟨t1o, et1o, e⟩ := bd_s e
  refine BJw_putOn_L6 L xs v0 v1 v2 v3 lay h R (fun (t1 : Int32 × Int32) => (some t1.1) = some o) (fun t1 e => ?_) 1000000 (0, 0) _ et1o e
  refine seg_Bg (pc' := 61) (lv' := [(0, .int v0), (1, .int v1), (2, .int v2), (3, .int v3), (4, .int t1.1), (5, .int t1.2)]) (st' := [.int t1.1]) (lay' := lay) (h' := h) 1 rfl ?_
  rw [hR, ← Option.some.inj e]; exact ret_Bg rfl

set_option maxRecDepth 100000 in
theorem BJw_isMade_J49 (L : Nat) (xs : Nat → Int32) (A : Nat) (v1 v2 v3 s0 s1 : Int32) (h : Wd) (o : (Int32 × Wd)) (e : Jw_isMade_J49 A v1 v2 v3 s0 s1 h = some o) (R : List Value × Lay × Hp) (hR : R = ([.int o.1], LAY o.2.1, o.2.2)) : Bg L xs 134 49 [(0, .ref 0), (1, .int v1), (2, .int v2), (3, .int v3)] [.int s1, .int s0] (LAY h.1) h.2 R := by
  refine seg_Bg (pc' := (if s0 = s1 then 52 else 99)) (lv' := [(0, .ref 0), (1, .int v1), (2, .int v2), (3, .int v3)]) (st' := []) (lay' := LAY h.1) (h' := h.2) 1 rfl ?_
  refine pc_ite e (fun e => ?_) (fun e => ?_)
  · refine seg_Bg (pc' := (if v2 < (-1) then 99 else 57)) (lv' := [(0, .ref 0), (1, .int v1), (2, .int v2), (3, .int v3)]) (st' := []) (lay' := LAY h.1) (h' := h.2) 3 rfl ?_
    refine pc_ite e (fun e => ?_) (fun e => ?_)
    · refine seg_Bg (pc' := 100) (lv' := [(0, .ref 0), (1, .int v1), (2, .int v2), (3, .int v3)]) (st' := [.int 0]) (lay' := LAY h.1) (h' := h.2) 1 rfl ?_
      rw [hR, ← Option.some.inj e]; exact ret_Bg rfl
    · refine seg_Bg (pc' := 60) (lv' := [(0, .ref 0), (1, .int v1), (2, .int v2), (3, .int v3)]) (st' := [.int 1, .int v1, .ref 0]) (lay' := LAY h.1) (h' := h.2) 3 rfl ?_
      refine call_Bg (a := 116) (la := [(0, .ref 0), (1, .int v1), (2, .int 1)]) (np := 63) (lv' := [(0, .ref 0), (1, .int v1), (2, .int v2), (3, .int v3)]) (rest := []) (res := fun r => ([.int r.1], LAY r.2.1, r.2.2)) rfl e (fun r e => BOo_cost L xs v1 1 h r e) (fun c2 e => ?_)
      show Bg L xs 134 63 [(0, .ref 0), (1, .int v1), (2, .int v2), (3, .int v3)] [.int c2.1] (LAY c2.2.1) c2.2.2 R
      refine seg_Bg (pc' := (if c2.1 = (-1) then 67 else 99)) (lv' := [(0, .ref 0), (1, .int v1), (2, .int v2), (3, .int v3)]) (st' := []) (lay' := LAY c2.2.1) (h' := c2.2.2) 2 rfl ?_
      refine pc_ite e (fun e => ?_) (fun e => ?_)
      · refine seg_Bg (pc' := 70) (lv' := [(0, .ref 0), (1, .int v1), (2, .int v2), (3, .int v3)]) (st' := [.int 2, .int v1, .ref 0]) (lay' := LAY c2.2.1) (h' := c2.2.2) 3 rfl ?_
        refine call_Bg (a := 116) (la := [(0, .ref 0), (1, .int v1), (2, .int 2)]) (np := 73) (lv' := [(0, .ref 0), (1, .int v1), (2, .int v2), (3, .int v3)]) (rest := []) (res := fun r => ([.int r.1], LAY r.2.1, r.2.2)) rfl e (fun r e => BOo_cost L xs v1 2 c2.2 r e) (fun c3 e => ?_)
        show Bg L xs 134 73 [(0, .ref 0), (1, .int v1), (2, .int v2), (3, .int v3)] [.int c3.1] (LAY c3.2.1) c3.2.2 R
        refine seg_Bg (pc' := (if c3.1 = (-1) then 77 else 99)) (lv' := [(0, .ref 0), (1, .int v1), (2, .int v2), (3, .int v3)]) (st' := []) (lay' := LAY c3.2.1) (h' := c3.2.2) 2 rfl ?_
        refine pc_ite e (fun e => ?_) (fun e => ?_)
        · refine seg_Bg (pc' := 80) (lv' := [(0, .ref 0), (1, .int v1), (2, .int v2), (3, .int v3)]) (st' := [.int 5, .int v1, .ref 0]) (lay' := LAY c3.2.1) (h' := c3.2.2) 3 rfl ?_
          refine call_Bg (a := 116) (la := [(0, .ref 0), (1, .int v1), (2, .int 5)]) (np := 83) (lv' := [(0, .ref 0), (1, .int v1), (2, .int v2), (3, .int v3)]) (rest := []) (res := fun r => ([.int r.1], LAY r.2.1, r.2.2)) rfl e (fun r e => BOo_cost L xs v1 5 c3.2 r e) (fun c4 e => ?_)
          show Bg L xs 134 83 [(0, .ref 0), (1, .int v1), (2, .int v2), (3, .int v3)] [.int c4.1] (LAY c4.2.1) c4.2.2 R
          refine seg_Bg (pc' := (if v3 = 0 then 91 else 87)) (lv' := [(0, .ref 0), (1, .int v1), (2, .int v2), (3, .int v3)]) (st' := [.int c4.1]) (lay' := LAY c4.2.1) (h' := c4.2.2) 2 rfl ?_
          refine pc_ite e (fun e => ?_) (fun e => ?_)
          · refine seg_Bg (pc' := (if c4.1 = (-1) then 95 else 99)) (lv' := [(0, .ref 0), (1, .int v1), (2, .int v2), (3, .int v3)]) (st' := []) (lay' := LAY c4.2.1) (h' := c4.2.2) 2 rfl ?_
            refine pc_ite e (fun e => ?_) (fun e => ?_)
            · refine seg_Bg (pc' := 100) (lv' := [(0, .ref 0), (1, .int v1), (2, .int v2), (3, .int v3)]) (st' := [.int 1]) (lay' := LAY c4.2.1) (h' := c4.2.2) 2 rfl ?_
              rw [hR, ← Option.some.inj e]; exact ret_Bg rfl
            · refine seg_Bg (pc' := 100) (lv' := [(0, .ref 0), (1, .int v1), (2, .int v2), (3, .int v3)]) (st' := [.int 0]) (lay' := LAY c4.2.1) (h' := c4.2.2) 1 rfl ?_
              rw [hR, ← Option.some.inj e]; exact ret_Bg rfl
          · refine seg_Bg (pc' := (if c4.1 = 1 then 95 else 99)) (lv' := [(0, .ref 0), (1, .int v1), (2, .int v2), (3, .int v3)]) (st' := []) (lay' := LAY c4.2.1) (h' := c4.2.2) 3 rfl ?_
            refine pc_ite e (fun e => ?_) (fun e => ?_)
            · refine seg_Bg (pc' := 100) (lv' := [(0, .ref 0), (1, .int v1), (2, .int v2), (3, .int v3)]) (st' := [.int 1]) (lay' := LAY c4.2.1) (h' := c4.2.2) 2 rfl ?_
              rw [hR, ← Option.some.inj e]; exact ret_Bg rfl
            · refine seg_Bg (pc' := 100) (lv' := [(0, .ref 0), (1, .int v1), (2, .int v2), (3, .int v3)]) (st' := [.int 0]) (lay' := LAY c4.2.1) (h' := c4.2.2) 1 rfl ?_
              rw [hR, ← Option.some.inj e]; exact ret_Bg rfl
        · refine seg_Bg (pc' := 100) (lv' := [(0, .ref 0), (1, .int v1), (2, .int v2), (3, .int v3)]) (st' := [.int 0]) (lay' := LAY c3.2.1) (h' := c3.2.2) 1 rfl ?_
          rw [hR, ← Option.some.inj e]; exact ret_Bg rfl
      · refine seg_Bg (pc' := 100) (lv' := [(0, .ref 0), (1, .int v1), (2, .int v2), (3, .int v3)]) (st' := [.int 0]) (lay' := LAY c2.2.1) (h' := c2.2.2) 1 rfl ?_
        rw [hR, ← Option.some.inj e]; exact ret_Bg rfl
  · refine seg_Bg (pc' := 100) (lv' := [(0, .ref 0), (1, .int v1), (2, .int v2), (3, .int v3)]) (st' := [.int 0]) (lay' := LAY h.1) (h' := h.2) 1 rfl ?_
    rw [hR, ← Option.some.inj e]; exact ret_Bg rfl
set_option maxRecDepth 100000 in
theorem BJw_isMade_J38 (L : Nat) (xs : Nat → Int32) (A : Nat) (v1 v2 s0 : Int32) (h : Wd) (o : (Int32 × Wd)) (e : Jw_isMade_J38 A v1 v2 s0 h = some o) (R : List Value × Lay × Hp) (hR : R = ([.int o.1], LAY o.2.1, o.2.2)) : Bg L xs 134 38 [(0, .ref 0), (1, .int v1), (2, .int v2)] [.int s0] (LAY h.1) h.2 R := by
  refine seg_Bg (pc' := (if v2 = 0 then 44 else 48)) (lv' := [(0, .ref 0), (1, .int v1), (2, .int v2), (3, .int s0)]) (st' := [.int s0]) (lay' := LAY h.1) (h' := h.2) 4 rfl ?_
  refine pc_ite e (fun e => ?_) (fun e => ?_)
  · refine seg_Bg (pc' := 49) (lv' := [(0, .ref 0), (1, .int v1), (2, .int v2), (3, .int s0)]) (st' := [.int 1, .int s0]) (lay' := LAY h.1) (h' := h.2) 2 rfl ?_
    exact BJw_isMade_J49 L xs A v1 v2 s0 s0 1 h o e R hR
  · refine seg_Bg (pc' := 49) (lv' := [(0, .ref 0), (1, .int v1), (2, .int v2), (3, .int s0)]) (st' := [.int 0, .int s0]) (lay' := LAY h.1) (h' := h.2) 1 rfl ?_
    exact BJw_isMade_J49 L xs A v1 v2 s0 s0 0 h o e R hR
set_option maxRecDepth 100000 in
theorem BJw_isMade_J237 (L : Nat) (xs : Nat → Int32) (A : Nat) (v1 v2 v3 v4 v5 v6 v8 v9 s0 : Int32) (h : Wd) (o : ((Int32 × Int32 × Int32 × Wd) ⊕ ((Int32 × Int32 × Int32 × Wd) ⊕ (Int32 × Wd)))) (e : Jw_isMade_J237 A v1 v2 v3 v4 v5 v6 v8 v9 s0 h = some o) (R : List Value × Lay × Hp) (hH : ∀ s : Int32 × Int32 × Int32 × Wd, o = .inl s → Bg L xs 134 157 [(0, .ref 0), (1, .int v1), (2, .int v2), (3, .int v3), (4, .int v4), (5, .int s.1), (6, .int s.2.1), (7, .ref A), (8, .int s.2.2.1)] [] (LAY s.2.2.2.1) s.2.2.2.2 R) (hE : ∀ t : Int32 × Int32 × Int32 × Wd, o = .inr (.inl t) → Bg L xs 134 267 [(0, .ref 0), (1, .int v1), (2, .int v2), (3, .int v3), (4, .int v4), (5, .int t.1), (6, .int t.2.1), (7, .ref A), (8, .int t.2.2.1)] [] (LAY t.2.2.2.1) t.2.2.2.2 R) (hR : ∀ r : Int32 × Wd, o = .inr (.inr r) → R = ([.int r.1], LAY r.2.1, r.2.2)) : Bg L xs 134 237 [(0, .ref 0), (1, .int v1), (2, .int v2), (3, .int v3), (4, .int v4), (5, .int v5), (6, .int v6), (7, .ref A), (8, .int v8), (9, .int v9)] [.int s0] (LAY h.1) h.2 R := by
  refine seg_Bg (pc' := (if v9 < 0 then 244 else 249)) (lv' := [(0, .ref 0), (1, .int v1), (2, .int v2), (3, .int v3), (4, .int v4), (5, .int s0), (6, .int v6), (7, .ref A), (8, .int v8), (9, .int v9)]) (st' := []) (lay' := LAY h.1) (h' := h.2) 3 rfl ?_
  refine pc_ite e (fun e => ?_) (fun e => ?_)
  · refine seg_Bg (pc' := 157) (lv' := [(0, .ref 0), (1, .int v1), (2, .int v2), (3, .int v3), (4, .int v4), (5, .int s0), (6, .int v6), (7, .ref A), (8, .int (v8 + 1)), (9, .int v9)]) (st' := []) (lay' := LAY h.1) (h' := h.2) 5 rfl ?_
    refine kp_Bg (lv' := [(0, .ref 0), (1, .int v1), (2, .int v2), (3, .int v3), (4, .int v4), (5, .int s0), (6, .int v6), (7, .ref A), (8, .int (v8 + 1))]) rfl rfl ?_
    exact hH (s0, v6, v8 + 1, h) (Option.some.inj e).symm
  · refine seg_Bg (pc' := 255) (lv' := [(0, .ref 0), (1, .int v1), (2, .int v2), (3, .int v3), (4, .int v4), (5, .int s0), (6, .int v6), (7, .ref A), (8, .int v8), (9, .int v9)]) (st' := [.int 5, .int v9, .ref 0, .int v6]) (lay' := LAY h.1) (h' := h.2) 4 rfl ?_
    refine call_Bg (a := 116) (la := [(0, .ref 0), (1, .int v9), (2, .int 5)]) (np := 258) (lv' := [(0, .ref 0), (1, .int v1), (2, .int v2), (3, .int v3), (4, .int v4), (5, .int s0), (6, .int v6), (7, .ref A), (8, .int v8), (9, .int v9)]) (rest := [.int v6]) (res := fun r => ([.int r.1], LAY r.2.1, r.2.2)) rfl e (fun r e => BOo_cost L xs v9 5 h r e) (fun c12 e => ?_)
    show Bg L xs 134 258 [(0, .ref 0), (1, .int v1), (2, .int v2), (3, .int v3), (4, .int v4), (5, .int s0), (6, .int v6), (7, .ref A), (8, .int v8), (9, .int v9)] [.int c12.1, .int v6] (LAY c12.2.1) c12.2.2 R
    refine seg_Bg (pc' := 157) (lv' := [(0, .ref 0), (1, .int v1), (2, .int v2), (3, .int v3), (4, .int v4), (5, .int s0), (6, .int (v6 + c12.1)), (7, .ref A), (8, .int (v8 + 1)), (9, .int v9)]) (st' := []) (lay' := LAY c12.2.1) (h' := c12.2.2) 4 rfl ?_
    refine kp_Bg (lv' := [(0, .ref 0), (1, .int v1), (2, .int v2), (3, .int v3), (4, .int v4), (5, .int s0), (6, .int (v6 + c12.1)), (7, .ref A), (8, .int (v8 + 1))]) rfl rfl ?_
    exact hH (s0, v6 + c12.1, v8 + 1, c12.2) (Option.some.inj e).symm
set_option maxRecDepth 100000 in
theorem BJw_isMade_J216 (L : Nat) (xs : Nat → Int32) (A : Nat) (v1 v2 v3 v4 v5 v6 v8 v9 s1 s2 : Int32) (h : Wd) (o : ((Int32 × Int32 × Int32 × Wd) ⊕ ((Int32 × Int32 × Int32 × Wd) ⊕ (Int32 × Wd)))) (e : Jw_isMade_J216 A v1 v2 v3 v4 v5 v6 v8 v9 s1 s2 h = some o) (R : List Value × Lay × Hp) (hH : ∀ s : Int32 × Int32 × Int32 × Wd, o = .inl s → Bg L xs 134 157 [(0, .ref 0), (1, .int v1), (2, .int v2), (3, .int v3), (4, .int v4), (5, .int s.1), (6, .int s.2.1), (7, .ref A), (8, .int s.2.2.1)] [] (LAY s.2.2.2.1) s.2.2.2.2 R) (hE : ∀ t : Int32 × Int32 × Int32 × Wd, o = .inr (.inl t) → Bg L xs 134 267 [(0, .ref 0), (1, .int v1), (2, .int v2), (3, .int v3), (4, .int v4), (5, .int t.1), (6, .int t.2.1), (7, .ref A), (8, .int t.2.2.1)] [] (LAY t.2.2.2.1) t.2.2.2.2 R) (hR : ∀ r : Int32 × Wd, o = .inr (.inr r) → R = ([.int r.1], LAY r.2.1, r.2.2)) : Bg L xs 134 216 [(0, .ref 0), (1, .int v1), (2, .int v2), (3, .int v3), (4, .int v4), (5, .int v5), (6, .int v6), (7, .ref A), (8, .int v8), (9, .int v9)] [.int s2, .int s1, .ref A] (LAY h.1) h.2 R := by
  refine stW_Bg (np := 217) (lv' := [(0, .ref 0), (1, .int v1), (2, .int v2), (3, .int v3), (4, .int v4), (5, .int v5), (6, .int v6), (7, .ref A), (8, .int v8), (9, .int v9)]) rfl e fun h11 e => ?_
  show Bg L xs 134 217 [(0, .ref 0), (1, .int v1), (2, .int v2), (3, .int v3), (4, .int v4), (5, .int v5), (6, .int v6), (7, .ref A), (8, .int v8), (9, .int v9)] [] (LAY h11.1) h11.2 R
  refine seg_Bg (pc' := (if v9 < 0 then 222 else 227)) (lv' := [(0, .ref 0), (1, .int v1), (2, .int v2), (3, .int v3), (4, .int v4), (5, .int v5), (6, .int v6), (7, .ref A), (8, .int v8), (9, .int v9)]) (st' := []) (lay' := LAY h11.1) (h' := h11.2) 2 rfl ?_
  refine pc_ite e (fun e => ?_) (fun e => ?_)
  · refine seg_Bg (pc' := 237) (lv' := [(0, .ref 0), (1, .int v1), (2, .int v2), (3, .int v3), (4, .int v4), (5, .int v5), (6, .int v6), (7, .ref A), (8, .int v8), (9, .int v9)]) (st' := [.int v5]) (lay' := LAY h11.1) (h' := h11.2) 2 rfl ?_
    exact BJw_isMade_J237 L xs A v1 v2 v3 v4 v5 v6 v8 v9 v5 h11 o e R hH hE hR
  · refine seg_Bg (pc' := 233) (lv' := [(0, .ref 0), (1, .int v1), (2, .int v2), (3, .int v3), (4, .int v4), (5, .int v5), (6, .int v6), (7, .ref A), (8, .int v8), (9, .int v9)]) (st' := [.int 0, .int v9, .ref 0, .int v5]) (lay' := LAY h11.1) (h' := h11.2) 4 rfl ?_
    refine call_Bg (a := 116) (la := [(0, .ref 0), (1, .int v9), (2, .int 0)]) (np := 236) (lv' := [(0, .ref 0), (1, .int v1), (2, .int v2), (3, .int v3), (4, .int v4), (5, .int v5), (6, .int v6), (7, .ref A), (8, .int v8), (9, .int v9)]) (rest := [.int v5]) (res := fun r => ([.int r.1], LAY r.2.1, r.2.2)) rfl e (fun r e => BOo_cost L xs v9 0 h11 r e) (fun c13 e => ?_)
    show Bg L xs 134 236 [(0, .ref 0), (1, .int v1), (2, .int v2), (3, .int v3), (4, .int v4), (5, .int v5), (6, .int v6), (7, .ref A), (8, .int v8), (9, .int v9)] [.int c13.1, .int v5] (LAY c13.2.1) c13.2.2 R
    refine seg_Bg (pc' := 237) (lv' := [(0, .ref 0), (1, .int v1), (2, .int v2), (3, .int v3), (4, .int v4), (5, .int v5), (6, .int v6), (7, .ref A), (8, .int v8), (9, .int v9)]) (st' := [.int (v5 + c13.1)]) (lay' := LAY c13.2.1) (h' := c13.2.2) 1 rfl ?_
    exact BJw_isMade_J237 L xs A v1 v2 v3 v4 v5 v6 v8 v9 (v5 + c13.1) c13.2 o e R hH hE hR
set_option maxRecDepth 100000 in
theorem BJw_isMade_J196 (L : Nat) (xs : Nat → Int32) (A : Nat) (v1 v2 v3 v4 v5 v6 v8 v9 s0 s1 : Int32) (h : Wd) (o : ((Int32 × Int32 × Int32 × Wd) ⊕ ((Int32 × Int32 × Int32 × Wd) ⊕ (Int32 × Wd)))) (e : Jw_isMade_J196 A v1 v2 v3 v4 v5 v6 v8 v9 s0 s1 h = some o) (R : List Value × Lay × Hp) (hH : ∀ s : Int32 × Int32 × Int32 × Wd, o = .inl s → Bg L xs 134 157 [(0, .ref 0), (1, .int v1), (2, .int v2), (3, .int v3), (4, .int v4), (5, .int s.1), (6, .int s.2.1), (7, .ref A), (8, .int s.2.2.1)] [] (LAY s.2.2.2.1) s.2.2.2.2 R) (hE : ∀ t : Int32 × Int32 × Int32 × Wd, o = .inr (.inl t) → Bg L xs 134 267 [(0, .ref 0), (1, .int v1), (2, .int v2), (3, .int v3), (4, .int v4), (5, .int t.1), (6, .int t.2.1), (7, .ref A), (8, .int t.2.2.1)] [] (LAY t.2.2.2.1) t.2.2.2.2 R) (hR : ∀ r : Int32 × Wd, o = .inr (.inr r) → R = ([.int r.1], LAY r.2.1, r.2.2)) : Bg L xs 134 196 [(0, .ref 0), (1, .int v1), (2, .int v2), (3, .int v3), (4, .int v4), (5, .int v5), (6, .int v6), (7, .ref A), (8, .int v8), (9, .int v9)] [.int s1, .int s0] (LAY h.1) h.2 R := by
  refine seg_Bg (pc' := (if s0 = s1 then 201 else 199)) (lv' := [(0, .ref 0), (1, .int v1), (2, .int v2), (3, .int v3), (4, .int v4), (5, .int v5), (6, .int v6), (7, .ref A), (8, .int v8), (9, .int v9)]) (st' := []) (lay' := LAY h.1) (h' := h.2) 1 rfl ?_
  refine pc_ite e (fun e => ?_) (fun e => ?_)
  · refine seg_Bg (pc' := (if v9 < 0 then 210 else 214)) (lv' := [(0, .ref 0), (1, .int v1), (2, .int v2), (3, .int v3), (4, .int v4), (5, .int v5), (6, .int v6), (7, .ref A), (8, .int v8), (9, .int v9)]) (st' := [.int v8, .ref A]) (lay' := LAY h.1) (h' := h.2) 4 rfl ?_
    refine pc_ite e (fun e => ?_) (fun e => ?_)
    · refine seg_Bg (pc' := 216) (lv' := [(0, .ref 0), (1, .int v1), (2, .int v2), (3, .int v3), (4, .int v4), (5, .int v5), (6, .int v6), (7, .ref A), (8, .int v8), (9, .int v9)]) (st' := [.int 0, .int v8, .ref A]) (lay' := LAY h.1) (h' := h.2) 2 rfl ?_
      exact BJw_isMade_J216 L xs A v1 v2 v3 v4 v5 v6 v8 v9 v8 0 h o e R hH hE hR
    · refine seg_Bg (pc' := 216) (lv' := [(0, .ref 0), (1, .int v1), (2, .int v2), (3, .int v3), (4, .int v4), (5, .int v5), (6, .int v6), (7, .ref A), (8, .int v8), (9, .int v9)]) (st' := [.int v9, .int v8, .ref A]) (lay' := LAY h.1) (h' := h.2) 1 rfl ?_
      exact BJw_isMade_J216 L xs A v1 v2 v3 v4 v5 v6 v8 v9 v8 v9 h o e R hH hE hR
  · refine seg_Bg (pc' := 200) (lv' := [(0, .ref 0), (1, .int v1), (2, .int v2), (3, .int v3), (4, .int v4), (5, .int v5), (6, .int v6), (7, .ref A), (8, .int v8), (9, .int v9)]) (st' := [.int 0]) (lay' := LAY h.1) (h' := h.2) 1 rfl ?_
    rw [hR (0, h) (Option.some.inj e).symm]; exact ret_Bg rfl
set_option maxRecDepth 100000 in
theorem BJw_isMade_J184 (L : Nat) (xs : Nat → Int32) (A : Nat) (v1 v2 v3 v4 v5 v6 v8 v9 s0 : Int32) (h : Wd) (o : ((Int32 × Int32 × Int32 × Wd) ⊕ ((Int32 × Int32 × Int32 × Wd) ⊕ (Int32 × Wd)))) (e : Jw_isMade_J184 A v1 v2 v3 v4 v5 v6 v8 v9 s0 h = some o) (R : List Value × Lay × Hp) (hH : ∀ s : Int32 × Int32 × Int32 × Wd, o = .inl s → Bg L xs 134 157 [(0, .ref 0), (1, .int v1), (2, .int v2), (3, .int v3), (4, .int v4), (5, .int s.1), (6, .int s.2.1), (7, .ref A), (8, .int s.2.2.1)] [] (LAY s.2.2.2.1) s.2.2.2.2 R) (hE : ∀ t : Int32 × Int32 × Int32 × Wd, o = .inr (.inl t) → Bg L xs 134 267 [(0, .ref 0), (1, .int v1), (2, .int v2), (3, .int v3), (4, .int v4), (5, .int t.1), (6, .int t.2.1), (7, .ref A), (8, .int t.2.2.1)] [] (LAY t.2.2.2.1) t.2.2.2.2 R) (hR : ∀ r : Int32 × Wd, o = .inr (.inr r) → R = ([.int r.1], LAY r.2.1, r.2.2)) : Bg L xs 134 184 [(0, .ref 0), (1, .int v1), (2, .int v2), (3, .int v3), (4, .int v4), (5, .int v5), (6, .int v6), (7, .ref A), (8, .int v8), (9, .int v9)] [.int s0] (LAY h.1) h.2 R := by
  refine seg_Bg (pc' := (if v8 < v4 then 195 else 191)) (lv' := [(0, .ref 0), (1, .int v1), (2, .int v2), (3, .int v3), (4, .int v4), (5, .int v5), (6, .int v6), (7, .ref A), (8, .int v8), (9, .int v9)]) (st' := [.int s0]) (lay' := LAY h.1) (h' := h.2) 3 rfl ?_
  refine pc_ite e (fun e => ?_) (fun e => ?_)
  · refine seg_Bg (pc' := 196) (lv' := [(0, .ref 0), (1, .int v1), (2, .int v2), (3, .int v3), (4, .int v4), (5, .int v5), (6, .int v6), (7, .ref A), (8, .int v8), (9, .int v9)]) (st' := [.int 0, .int s0]) (lay' := LAY h.1) (h' := h.2) 1 rfl ?_
    exact BJw_isMade_J196 L xs A v1 v2 v3 v4 v5 v6 v8 v9 s0 0 h o e R hH hE hR
  · refine seg_Bg (pc' := 196) (lv' := [(0, .ref 0), (1, .int v1), (2, .int v2), (3, .int v3), (4, .int v4), (5, .int v5), (6, .int v6), (7, .ref A), (8, .int v8), (9, .int v9)]) (st' := [.int 1, .int s0]) (lay' := LAY h.1) (h' := h.2) 2 rfl ?_
    exact BJw_isMade_J196 L xs A v1 v2 v3 v4 v5 v6 v8 v9 s0 1 h o e R hH hE hR
set_option maxRecDepth 100000 in
theorem BJw_isMade_L157_s (L : Nat) (xs : Nat → Int32) (A : Nat) (v1 v2 v3 v4 : Int32) (R : List Value × Lay × Hp) (v5 v6 v8 : Int32) (h : Wd) (o : ((Int32 × Int32 × Int32 × Wd) ⊕ ((Int32 × Int32 × Int32 × Wd) ⊕ (Int32 × Wd)))) (hH : ∀ s : Int32 × Int32 × Int32 × Wd, o = .inl s → Bg L xs 134 157 [(0, .ref 0), (1, .int v1), (2, .int v2), (3, .int v3), (4, .int v4), (5, .int s.1), (6, .int s.2.1), (7, .ref A), (8, .int s.2.2.1)] [] (LAY s.2.2.2.1) s.2.2.2.2 R) (hE : ∀ t : Int32 × Int32 × Int32 × Wd, o = .inr (.inl t) → Bg L xs 134 267 [(0, .ref 0), (1, .int v1), (2, .int v2), (3, .int v3), (4, .int v4), (5, .int t.1), (6, .int t.2.1), (7, .ref A), (8, .int t.2.2.1)] [] (LAY t.2.2.2.1) t.2.2.2.2 R) (hR : ∀ r : Int32 × Wd, o = .inr (.inr r) → R = ([.int r.1], LAY r.2.1, r.2.2)) (e : Jw_isMade_L157 A v1 v2 v3 v4 v5 v6 v8 h = some o) : Bg L xs 134 157 [(0, .ref 0), (1, .int v1), (2, .int v2), (3, .int v3), (4, .int v4), (5, .int v5), (6, .int v6), (7, .ref A), (8, .int v8)] [] (LAY h.1) h.2 R := by
  refine seg_Bg (pc' := (if v8 < 3 then 163 else 267)) (lv' := [(0, .ref 0), (1, .int v1), (2, .int v2), (3, .int v3), (4, .int v4), (5, .int v5), (6, .int v6), (7, .ref A), (8, .int v8)]) (st' := []) (lay' := LAY h.1) (h' := h.2) 3 rfl ?_
  refine pc_ite e (fun e => ?_) (fun e => ?_)
  · refine seg_Bg (pc' := 169) (lv' := [(0, .ref 0), (1, .int v1), (2, .int v2), (3, .int v3), (4, .int v4), (5, .int v5), (6, .int v6), (7, .ref A), (8, .int v8)]) (st' := [.int ((2 : Int32) + v8), .int v1, .ref 0]) (lay' := LAY h.1) (h' := h.2) 5 rfl ?_
    refine call_Bg (a := 116) (la := [(0, .ref 0), (1, .int v1), (2, .int ((2 : Int32) + v8))]) (np := 172) (lv' := [(0, .ref 0), (1, .int v1), (2, .int v2), (3, .int v3), (4, .int v4), (5, .int v5), (6, .int v6), (7, .ref A), (8, .int v8)]) (rest := []) (res := fun r => ([.int r.1], LAY r.2.1, r.2.2)) rfl e (fun r e => BOo_cost L xs v1 ((2 : Int32) + v8) h r e) (fun c10 e => ?_)
    show Bg L xs 134 172 [(0, .ref 0), (1, .int v1), (2, .int v2), (3, .int v3), (4, .int v4), (5, .int v5), (6, .int v6), (7, .ref A), (8, .int v8)] [.int c10.1] (LAY c10.2.1) c10.2.2 R
    refine seg_Bg (pc' := (if c10.1 < 0 then 179 else 183)) (lv' := [(0, .ref 0), (1, .int v1), (2, .int v2), (3, .int v3), (4, .int v4), (5, .int v5), (6, .int v6), (7, .ref A), (8, .int v8), (9, .int c10.1)]) (st' := []) (lay' := LAY c10.2.1) (h' := c10.2.2) 3 rfl ?_
    refine pc_ite e (fun e => ?_) (fun e => ?_)
    · refine seg_Bg (pc' := 184) (lv' := [(0, .ref 0), (1, .int v1), (2, .int v2), (3, .int v3), (4, .int v4), (5, .int v5), (6, .int v6), (7, .ref A), (8, .int v8), (9, .int c10.1)]) (st' := [.int 1]) (lay' := LAY c10.2.1) (h' := c10.2.2) 2 rfl ?_
      exact BJw_isMade_J184 L xs A v1 v2 v3 v4 v5 v6 v8 c10.1 1 c10.2 o e R hH hE hR
    · refine seg_Bg (pc' := 184) (lv' := [(0, .ref 0), (1, .int v1), (2, .int v2), (3, .int v3), (4, .int v4), (5, .int v5), (6, .int v6), (7, .ref A), (8, .int v8), (9, .int c10.1)]) (st' := [.int 0]) (lay' := LAY c10.2.1) (h' := c10.2.2) 1 rfl ?_
      exact BJw_isMade_J184 L xs A v1 v2 v3 v4 v5 v6 v8 c10.1 0 c10.2 o e R hH hE hR
  · exact hE (v5, v6, v8, h) (Option.some.inj e).symm
theorem BJw_isMade_L157 (L : Nat) (xs : Nat → Int32) (A : Nat) (v1 v2 v3 v4 : Int32) (R : List Value × Lay × Hp) (C : ((Int32 × Int32 × Int32 × Wd) ⊕ (Int32 × Wd)) → Prop) (hE : ∀ t : Int32 × Int32 × Int32 × Wd, C (.inl t) → Bg L xs 134 267 [(0, .ref 0), (1, .int v1), (2, .int v2), (3, .int v3), (4, .int v4), (5, .int t.1), (6, .int t.2.1), (7, .ref A), (8, .int t.2.2.1)] [] (LAY t.2.2.2.1) t.2.2.2.2 R) (hR : ∀ r : Int32 × Wd, C (.inr r) → R = ([.int r.1], LAY r.2.1, r.2.2)) (n : Nat) (s : Int32 × Int32 × Int32 × Wd) (o : ((Int32 × Int32 × Int32 × Wd) ⊕ (Int32 × Wd))) (e : loopN n (fun s => Jw_isMade_L157 A v1 v2 v3 v4 s.1 s.2.1 s.2.2.1 s.2.2.2) s = some o) (hC : C o) : Bg L xs 134 157 [(0, .ref 0), (1, .int v1), (2, .int v2), (3, .int v3), (4, .int v4), (5, .int s.1), (6, .int s.2.1), (7, .ref A), (8, .int s.2.2.1)] [] (LAY s.2.2.2.1) s.2.2.2.2 R := by
  refine loop_B (fun s => Jw_isMade_L157 A v1 v2 v3 v4 s.1 s.2.1 s.2.2.1 s.2.2.2) (fun s : Int32 × Int32 × Int32 × Wd => Bg L xs 134 157 [(0, .ref 0), (1, .int v1), (2, .int v2), (3, .int v3), (4, .int v4), (5, .int s.1), (6, .int s.2.1), (7, .ref A), (8, .int s.2.2.1)] [] (LAY s.2.2.2.1) s.2.2.2.2 R) C (fun s o e => ?_) n s o e hC
  intro hK
  refine BJw_isMade_L157_s L xs A v1 v2 v3 v4 R s.1 s.2.1 s.2.2.1 s.2.2.2 o (fun s q => by subst q; exact hK) (fun t q => by subst q; exact hE t hK) (fun r q => by subst q; exact hR r hK) e
set_option maxRecDepth 100000 in
theorem BJw_isMade (L : Nat) (xs : Nat → Int32) (A : Nat) (v1 : Int32) (h : Wd) (o : Int32 × Wd) (e : Jw_isMade A v1 h = some o) : Bg L xs 134 0 [(0, .ref 0), (1, .int v1)] [] (LAY h.1) h.2 ([.int o.1], LAY o.2.1, o.2.2) := by
  obtain ⟨R, hR⟩ : ∃ R : List Value × Lay × Hp, R = ([.int o.1], LAY o.2.1, o.2.2) := ⟨_, rfl⟩
  rw [← hR]
  refine seg_Bg (pc' := 3) (lv' := [(0, .ref 0), (1, .int v1)]) (st' := [.int 0, .int v1, .ref 0]) (lay' := LAY h.1) (h' := h.2) 3 rfl ?_
  refine call_Bg (a := 116) (la := [(0, .ref 0), (1, .int v1), (2, .int 0)]) (np := 6) (lv' := [(0, .ref 0), (1, .int v1)]) (rest := []) (res := fun r => ([.int r.1], LAY r.2.1, r.2.2)) rfl e (fun r e => BOo_cost L xs v1 0 h r e) (fun c1 e => ?_)
  show Bg L xs 134 6 [(0, .ref 0), (1, .int v1)] [.int c1.1] (LAY c1.2.1) c1.2.2 R
  refine seg_Bg (pc' := (if c1.1 < 1 then 12 else 101)) (lv' := [(0, .ref 0), (1, .int v1), (2, .int c1.1)]) (st' := []) (lay' := LAY c1.2.1) (h' := c1.2.2) 4 rfl ?_
  refine pc_ite e (fun e => ?_) (fun e => ?_)
  · refine seg_Bg (pc' := (if v1 = 240 then 33 else 19)) (lv' := [(0, .ref 0), (1, .int v1), (2, .int c1.1)]) (st' := []) (lay' := LAY c1.2.1) (h' := c1.2.2) 3 rfl ?_
    refine pc_ite e (fun e => ?_) (fun e => ?_)
    · refine seg_Bg (pc' := 38) (lv' := [(0, .ref 0), (1, .int v1), (2, .int c1.1)]) (st' := [.int 1]) (lay' := LAY c1.2.1) (h' := c1.2.2) 2 rfl ?_
      exact BJw_isMade_J38 L xs A v1 c1.1 1 c1.2 o e R hR
    · refine seg_Bg (pc' := (if v1 = 204 then 33 else 26)) (lv' := [(0, .ref 0), (1, .int v1), (2, .int c1.1)]) (st' := []) (lay' := LAY c1.2.1) (h' := c1.2.2) 3 rfl ?_
      refine pc_ite e (fun e => ?_) (fun e => ?_)
      · refine seg_Bg (pc' := 38) (lv' := [(0, .ref 0), (1, .int v1), (2, .int c1.1)]) (st' := [.int 1]) (lay' := LAY c1.2.1) (h' := c1.2.2) 2 rfl ?_
        exact BJw_isMade_J38 L xs A v1 c1.1 1 c1.2 o e R hR
      · refine seg_Bg (pc' := (if v1 = 170 then 33 else 37)) (lv' := [(0, .ref 0), (1, .int v1), (2, .int c1.1)]) (st' := []) (lay' := LAY c1.2.1) (h' := c1.2.2) 3 rfl ?_
        refine pc_ite e (fun e => ?_) (fun e => ?_)
        · refine seg_Bg (pc' := 38) (lv' := [(0, .ref 0), (1, .int v1), (2, .int c1.1)]) (st' := [.int 1]) (lay' := LAY c1.2.1) (h' := c1.2.2) 2 rfl ?_
          exact BJw_isMade_J38 L xs A v1 c1.1 1 c1.2 o e R hR
        · refine seg_Bg (pc' := 38) (lv' := [(0, .ref 0), (1, .int v1), (2, .int c1.1)]) (st' := [.int 0]) (lay' := LAY c1.2.1) (h' := c1.2.2) 1 rfl ?_
          exact BJw_isMade_J38 L xs A v1 c1.1 0 c1.2 o e R hR
  · refine seg_Bg (pc' := 104) (lv' := [(0, .ref 0), (1, .int v1), (2, .int c1.1)]) (st' := [.int 1, .int v1, .ref 0]) (lay' := LAY c1.2.1) (h' := c1.2.2) 3 rfl ?_
    refine call_Bg (a := 116) (la := [(0, .ref 0), (1, .int v1), (2, .int 1)]) (np := 107) (lv' := [(0, .ref 0), (1, .int v1), (2, .int c1.1)]) (rest := []) (res := fun r => ([.int r.1], LAY r.2.1, r.2.2)) rfl e (fun r e => BOo_cost L xs v1 1 c1.2 r e) (fun c5 e => ?_)
    show Bg L xs 134 107 [(0, .ref 0), (1, .int v1), (2, .int c1.1)] [.int c5.1] (LAY c5.2.1) c5.2.2 R
    refine seg_Bg (pc' := (if c5.1 < 0 then 133 else 112)) (lv' := [(0, .ref 0), (1, .int v1), (2, .int c1.1), (3, .int c5.1)]) (st' := []) (lay' := LAY c5.2.1) (h' := c5.2.2) 3 rfl ?_
    refine pc_ite e (fun e => ?_) (fun e => ?_)
    · refine seg_Bg (pc' := 134) (lv' := [(0, .ref 0), (1, .int v1), (2, .int c1.1), (3, .int c5.1)]) (st' := [.int 0]) (lay' := LAY c5.2.1) (h' := c5.2.2) 1 rfl ?_
      rw [hR, ← Option.some.inj e]; exact ret_Bg rfl
    · refine seg_Bg (pc' := 115) (lv' := [(0, .ref 0), (1, .int v1), (2, .int c1.1), (3, .int c5.1)]) (st' := [.int 0, .ref 0, .int c5.1]) (lay' := LAY c5.2.1) (h' := c5.2.2) 3 rfl ?_
      refine call_Bg (a := 114) (la := [(0, .ref 0), (1, .int 0)]) (np := 118) (lv' := [(0, .ref 0), (1, .int v1), (2, .int c1.1), (3, .int c5.1)]) (rest := [.int c5.1]) (res := fun r => ([.int r.1], LAY r.2.1, r.2.2)) rfl e (fun r e => BOo_told L xs 0 c5.2 r e) (fun c6 e => ?_)
      show Bg L xs 134 118 [(0, .ref 0), (1, .int v1), (2, .int c1.1), (3, .int c5.1)] [.int c6.1, .int c5.1] (LAY c6.2.1) c6.2.2 R
      refine seg_Bg (pc' := (if c5.1 < c6.1 then 121 else 133)) (lv' := [(0, .ref 0), (1, .int v1), (2, .int c1.1), (3, .int c5.1)]) (st' := []) (lay' := LAY c6.2.1) (h' := c6.2.2) 1 rfl ?_
      refine pc_ite e (fun e => ?_) (fun e => ?_)
      · refine seg_Bg (pc' := 123) (lv' := [(0, .ref 0), (1, .int v1), (2, .int c1.1), (3, .int c5.1)]) (st' := [.int 2, .ref 0]) (lay' := LAY c6.2.1) (h' := c6.2.2) 2 rfl ?_
        refine call_Bg (a := 114) (la := [(0, .ref 0), (1, .int 2)]) (np := 126) (lv' := [(0, .ref 0), (1, .int v1), (2, .int c1.1), (3, .int c5.1)]) (rest := []) (res := fun r => ([.int r.1], LAY r.2.1, r.2.2)) rfl e (fun r e => BOo_told L xs 2 c6.2 r e) (fun c7 e => ?_)
        show Bg L xs 134 126 [(0, .ref 0), (1, .int v1), (2, .int c1.1), (3, .int c5.1)] [.int c7.1] (LAY c7.2.1) c7.2.2 R
        refine seg_Bg (pc' := (if ((c7.1 >>> (c5.1 &&& 31) : Int32) &&& (1 : Int32)) = 0 then 133 else 135)) (lv' := [(0, .ref 0), (1, .int v1), (2, .int c1.1), (3, .int c5.1)]) (st' := []) (lay' := LAY c7.2.1) (h' := c7.2.2) 5 rfl ?_
        refine pc_ite e (fun e => ?_) (fun e => ?_)
        · refine seg_Bg (pc' := 134) (lv' := [(0, .ref 0), (1, .int v1), (2, .int c1.1), (3, .int c5.1)]) (st' := [.int 0]) (lay' := LAY c7.2.1) (h' := c7.2.2) 1 rfl ?_
          rw [hR, ← Option.some.inj e]; exact ret_Bg rfl
        · refine seg_Bg (pc' := 138) (lv' := [(0, .ref 0), (1, .int v1), (2, .int c1.1), (3, .int c5.1)]) (st' := [.int 2, .int c5.1, .ref 0]) (lay' := LAY c7.2.1) (h' := c7.2.2) 3 rfl ?_
          refine call_Bg (a := 115) (la := [(0, .ref 0), (1, .int c5.1), (2, .int 2)]) (np := 141) (lv' := [(0, .ref 0), (1, .int v1), (2, .int c1.1), (3, .int c5.1)]) (rest := []) (res := fun r => ([.int r.1], LAY r.2.1, r.2.2)) rfl e (fun r e => BOo_function L xs c5.1 2 c7.2 r e) (fun c8 e => ?_)
          show Bg L xs 134 141 [(0, .ref 0), (1, .int v1), (2, .int c1.1), (3, .int c5.1)] [.int c8.1] (LAY c8.2.1) c8.2.2 R
          refine seg_Bg (pc' := 150) (lv' := [(0, .ref 0), (1, .int v1), (2, .int c1.1), (3, .int c5.1), (4, .int c8.1), (5, .int 1), (6, .int 1)]) (st' := [.int 3]) (lay' := LAY c8.2.1) (h' := c8.2.2) 6 rfl ?_
          refine nwW_Bg (np := 152) (lv' := [(0, .ref 0), (1, .int v1), (2, .int c1.1), (3, .int c5.1), (4, .int c8.1), (5, .int 1), (6, .int 1)]) rfl e fun h9 e => ?_
          show Bg L xs 134 152 [(0, .ref 0), (1, .int v1), (2, .int c1.1), (3, .int c5.1), (4, .int c8.1), (5, .int 1), (6, .int 1)] [.ref A] (LAY h9.1) h9.2 R
          refine seg_Bg (pc' := 157) (lv' := [(0, .ref 0), (1, .int v1), (2, .int c1.1), (3, .int c5.1), (4, .int c8.1), (5, .int 1), (6, .int 1), (7, .ref A), (8, .int 0)]) (st' := []) (lay' := LAY h9.1) (h' := h9.2) 3 rfl ?_
          obtain ⟨t14o, et14o, e⟩ := bd_s e
          refine BJw_isMade_L157 L xs A v1 c1.1 c5.1 c8.1 R (fun (t14x : (Int32 × Int32 × Int32 × Wd) ⊕ (Int32 × Wd)) => (sm t14x (fun t14 => if t14.1 = c1.1 then bd (Oo_cost v1 5 t14.2.2.2) fun c15 => if t14.2.1 = c15.1 then bd (Oo_function c5.1 0 c15.2) fun c16 => bif arrOk c16.2.1 A && ibB 0 3 then bif arrOk c16.2.1 A && ibB 1 3 then bif arrOk c16.2.1 A && ibB 2 3 then bd (Jw_putOn c16.1 (c16.2.2 A (Int32.toNatClampNeg (0 : Int32))) (c16.2.2 A (Int32.toNatClampNeg (1 : Int32))) (c16.2.2 A (Int32.toNatClampNeg (2 : Int32)))) fun c17 => if c17 = v1 then bd (Oo_spell v1 0 c16.2) fun c18 => if c18.1 = ((65 : Int32) + c5.1) then bd (Oo_spell v1 t14.2.1 c18.2) fun c19 => if c19.1 = (-1) then some (1, c19.2) else some (0, c19.2) else some (0, c18.2) else some (0, c16.2) else none else none else none else some (0, c15.2) else some (0, t14.2.2.2)) (fun r19 => some r19)) = some o) (fun t14 e => ?_) (fun r19 e => ?_) 1000000 (1, 1, 0, h9) _ et14o e
          · refine seg_Bg (pc' := (if t14.1 = c1.1 then 273 else 337)) (lv' := [(0, .ref 0), (1, .int v1), (2, .int c1.1), (3, .int c5.1), (4, .int c8.1), (5, .int t14.1), (6, .int t14.2.1), (7, .ref A), (8, .int t14.2.2.1)]) (st' := []) (lay' := LAY t14.2.2.2.1) (h' := t14.2.2.2.2) 3 rfl ?_
            refine pc_ite e (fun e => ?_) (fun e => ?_)
            · refine seg_Bg (pc' := 278) (lv' := [(0, .ref 0), (1, .int v1), (2, .int c1.1), (3, .int c5.1), (4, .int c8.1), (5, .int t14.1), (6, .int t14.2.1), (7, .ref A), (8, .int t14.2.2.1)]) (st' := [.int 5, .int v1, .ref 0, .int t14.2.1]) (lay' := LAY t14.2.2.2.1) (h' := t14.2.2.2.2) 4 rfl ?_
              refine call_Bg (a := 116) (la := [(0, .ref 0), (1, .int v1), (2, .int 5)]) (np := 281) (lv' := [(0, .ref 0), (1, .int v1), (2, .int c1.1), (3, .int c5.1), (4, .int c8.1), (5, .int t14.1), (6, .int t14.2.1), (7, .ref A), (8, .int t14.2.2.1)]) (rest := [.int t14.2.1]) (res := fun r => ([.int r.1], LAY r.2.1, r.2.2)) rfl e (fun r e => BOo_cost L xs v1 5 t14.2.2.2 r e) (fun c15 e => ?_)
              show Bg L xs 134 281 [(0, .ref 0), (1, .int v1), (2, .int c1.1), (3, .int c5.1), (4, .int c8.1), (5, .int t14.1), (6, .int t14.2.1), (7, .ref A), (8, .int t14.2.2.1)] [.int c15.1, .int t14.2.1] (LAY c15.2.1) c15.2.2 R
              refine seg_Bg (pc' := (if t14.2.1 = c15.1 then 284 else 337)) (lv' := [(0, .ref 0), (1, .int v1), (2, .int c1.1), (3, .int c5.1), (4, .int c8.1), (5, .int t14.1), (6, .int t14.2.1), (7, .ref A), (8, .int t14.2.2.1)]) (st' := []) (lay' := LAY c15.2.1) (h' := c15.2.2) 1 rfl ?_
              refine pc_ite e (fun e => ?_) (fun e => ?_)
              · refine seg_Bg (pc' := 287) (lv' := [(0, .ref 0), (1, .int v1), (2, .int c1.1), (3, .int c5.1), (4, .int c8.1), (5, .int t14.1), (6, .int t14.2.1), (7, .ref A), (8, .int t14.2.2.1)]) (st' := [.int 0, .int c5.1, .ref 0]) (lay' := LAY c15.2.1) (h' := c15.2.2) 3 rfl ?_
                refine call_Bg (a := 115) (la := [(0, .ref 0), (1, .int c5.1), (2, .int 0)]) (np := 290) (lv' := [(0, .ref 0), (1, .int v1), (2, .int c1.1), (3, .int c5.1), (4, .int c8.1), (5, .int t14.1), (6, .int t14.2.1), (7, .ref A), (8, .int t14.2.2.1)]) (rest := []) (res := fun r => ([.int r.1], LAY r.2.1, r.2.2)) rfl e (fun r e => BOo_function L xs c5.1 0 c15.2 r e) (fun c16 e => ?_)
                show Bg L xs 134 290 [(0, .ref 0), (1, .int v1), (2, .int c1.1), (3, .int c5.1), (4, .int c8.1), (5, .int t14.1), (6, .int t14.2.1), (7, .ref A), (8, .int t14.2.2.1)] [.int c16.1] (LAY c16.2.1) c16.2.2 R
                refine seg_Bg (pc' := 293) (lv' := [(0, .ref 0), (1, .int v1), (2, .int c1.1), (3, .int c5.1), (4, .int c8.1), (5, .int t14.1), (6, .int t14.2.1), (7, .ref A), (8, .int t14.2.2.1)]) (st' := [.int 0, .ref A, .int c16.1]) (lay' := LAY c16.2.1) (h' := c16.2.2) 2 rfl ?_
                refine ldW_Bg (np := 294) (lv' := [(0, .ref 0), (1, .int v1), (2, .int c1.1), (3, .int c5.1), (4, .int c8.1), (5, .int t14.1), (6, .int t14.2.1), (7, .ref A), (8, .int t14.2.2.1)]) rfl e fun e => ?_
                show Bg L xs 134 294 [(0, .ref 0), (1, .int v1), (2, .int c1.1), (3, .int c5.1), (4, .int c8.1), (5, .int t14.1), (6, .int t14.2.1), (7, .ref A), (8, .int t14.2.2.1)] [.int (c16.2.2 A (Int32.toNatClampNeg (0 : Int32))), .int c16.1] (LAY c16.2.1) c16.2.2 R
                refine seg_Bg (pc' := 297) (lv' := [(0, .ref 0), (1, .int v1), (2, .int c1.1), (3, .int c5.1), (4, .int c8.1), (5, .int t14.1), (6, .int t14.2.1), (7, .ref A), (8, .int t14.2.2.1)]) (st' := [.int 1, .ref A, .int (c16.2.2 A (Int32.toNatClampNeg (0 : Int32))), .int c16.1]) (lay' := LAY c16.2.1) (h' := c16.2.2) 2 rfl ?_
                refine ldW_Bg (np := 298) (lv' := [(0, .ref 0), (1, .int v1), (2, .int c1.1), (3, .int c5.1), (4, .int c8.1), (5, .int t14.1), (6, .int t14.2.1), (7, .ref A), (8, .int t14.2.2.1)]) rfl e fun e => ?_
                show Bg L xs 134 298 [(0, .ref 0), (1, .int v1), (2, .int c1.1), (3, .int c5.1), (4, .int c8.1), (5, .int t14.1), (6, .int t14.2.1), (7, .ref A), (8, .int t14.2.2.1)] [.int (c16.2.2 A (Int32.toNatClampNeg (1 : Int32))), .int (c16.2.2 A (Int32.toNatClampNeg (0 : Int32))), .int c16.1] (LAY c16.2.1) c16.2.2 R
                refine seg_Bg (pc' := 301) (lv' := [(0, .ref 0), (1, .int v1), (2, .int c1.1), (3, .int c5.1), (4, .int c8.1), (5, .int t14.1), (6, .int t14.2.1), (7, .ref A), (8, .int t14.2.2.1)]) (st' := [.int 2, .ref A, .int (c16.2.2 A (Int32.toNatClampNeg (1 : Int32))), .int (c16.2.2 A (Int32.toNatClampNeg (0 : Int32))), .int c16.1]) (lay' := LAY c16.2.1) (h' := c16.2.2) 2 rfl ?_
                refine ldW_Bg (np := 302) (lv' := [(0, .ref 0), (1, .int v1), (2, .int c1.1), (3, .int c5.1), (4, .int c8.1), (5, .int t14.1), (6, .int t14.2.1), (7, .ref A), (8, .int t14.2.2.1)]) rfl e fun e => ?_
                show Bg L xs 134 302 [(0, .ref 0), (1, .int v1), (2, .int c1.1), (3, .int c5.1), (4, .int c8.1), (5, .int t14.1), (6, .int t14.2.1), (7, .ref A), (8, .int t14.2.2.1)] [.int (c16.2.2 A (Int32.toNatClampNeg (2 : Int32))), .int (c16.2.2 A (Int32.toNatClampNeg (1 : Int32))), .int (c16.2.2 A (Int32.toNatClampNeg (0 : Int32))), .int c16.1] (LAY c16.2.1) c16.2.2 R
                refine call_Bg (a := 133) (la := [(0, .int c16.1), (1, .int (c16.2.2 A (Int32.toNatClampNeg (0 : Int32)))), (2, .int (c16.2.2 A (Int32.toNatClampNeg (1 : Int32)))), (3, .int (c16.2.2 A (Int32.toNatClampNeg (2 : Int32))))]) (np := 305) (lv' := [(0, .ref 0), (1, .int v1), (2, .int c1.1), (3, .int c5.1), (4, .int c8.1), (5, .int t14.1), (6, .int t14.2.1), (7, .ref A), (8, .int t14.2.2.1)]) (rest := []) (res := fun r => ([.int r], LAY c16.2.1, c16.2.2)) rfl e (fun r e => BJw_putOn L xs c16.1 (c16.2.2 A (Int32.toNatClampNeg (0 : Int32))) (c16.2.2 A (Int32.toNatClampNeg (1 : Int32))) (c16.2.2 A (Int32.toNatClampNeg (2 : Int32))) (LAY c16.2.1) c16.2.2 r e) (fun c17 e => ?_)
                show Bg L xs 134 305 [(0, .ref 0), (1, .int v1), (2, .int c1.1), (3, .int c5.1), (4, .int c8.1), (5, .int t14.1), (6, .int t14.2.1), (7, .ref A), (8, .int t14.2.2.1)] [.int c17] (LAY c16.2.1) c16.2.2 R
                refine seg_Bg (pc' := (if c17 = v1 then 309 else 337)) (lv' := [(0, .ref 0), (1, .int v1), (2, .int c1.1), (3, .int c5.1), (4, .int c8.1), (5, .int t14.1), (6, .int t14.2.1), (7, .ref A), (8, .int t14.2.2.1)]) (st' := []) (lay' := LAY c16.2.1) (h' := c16.2.2) 2 rfl ?_
                refine pc_ite e (fun e => ?_) (fun e => ?_)
                · refine seg_Bg (pc' := 312) (lv' := [(0, .ref 0), (1, .int v1), (2, .int c1.1), (3, .int c5.1), (4, .int c8.1), (5, .int t14.1), (6, .int t14.2.1), (7, .ref A), (8, .int t14.2.2.1)]) (st' := [.int 0, .int v1, .ref 0]) (lay' := LAY c16.2.1) (h' := c16.2.2) 3 rfl ?_
                  refine call_Bg (a := 117) (la := [(0, .ref 0), (1, .int v1), (2, .int 0)]) (np := 315) (lv' := [(0, .ref 0), (1, .int v1), (2, .int c1.1), (3, .int c5.1), (4, .int c8.1), (5, .int t14.1), (6, .int t14.2.1), (7, .ref A), (8, .int t14.2.2.1)]) (rest := []) (res := fun r => ([.int r.1], LAY r.2.1, r.2.2)) rfl e (fun r e => BOo_spell L xs v1 0 c16.2 r e) (fun c18 e => ?_)
                  show Bg L xs 134 315 [(0, .ref 0), (1, .int v1), (2, .int c1.1), (3, .int c5.1), (4, .int c8.1), (5, .int t14.1), (6, .int t14.2.1), (7, .ref A), (8, .int t14.2.2.1)] [.int c18.1] (LAY c18.2.1) c18.2.2 R
                  refine seg_Bg (pc' := (if c18.1 = ((65 : Int32) + c5.1) then 322 else 337)) (lv' := [(0, .ref 0), (1, .int v1), (2, .int c1.1), (3, .int c5.1), (4, .int c8.1), (5, .int t14.1), (6, .int t14.2.1), (7, .ref A), (8, .int t14.2.2.1)]) (st' := []) (lay' := LAY c18.2.1) (h' := c18.2.2) 4 rfl ?_
                  refine pc_ite e (fun e => ?_) (fun e => ?_)
                  · refine seg_Bg (pc' := 326) (lv' := [(0, .ref 0), (1, .int v1), (2, .int c1.1), (3, .int c5.1), (4, .int c8.1), (5, .int t14.1), (6, .int t14.2.1), (7, .ref A), (8, .int t14.2.2.1)]) (st' := [.int t14.2.1, .int v1, .ref 0]) (lay' := LAY c18.2.1) (h' := c18.2.2) 3 rfl ?_
                    refine call_Bg (a := 117) (la := [(0, .ref 0), (1, .int v1), (2, .int t14.2.1)]) (np := 329) (lv' := [(0, .ref 0), (1, .int v1), (2, .int c1.1), (3, .int c5.1), (4, .int c8.1), (5, .int t14.1), (6, .int t14.2.1), (7, .ref A), (8, .int t14.2.2.1)]) (rest := []) (res := fun r => ([.int r.1], LAY r.2.1, r.2.2)) rfl e (fun r e => BOo_spell L xs v1 t14.2.1 c18.2 r e) (fun c19 e => ?_)
                    show Bg L xs 134 329 [(0, .ref 0), (1, .int v1), (2, .int c1.1), (3, .int c5.1), (4, .int c8.1), (5, .int t14.1), (6, .int t14.2.1), (7, .ref A), (8, .int t14.2.2.1)] [.int c19.1] (LAY c19.2.1) c19.2.2 R
                    refine seg_Bg (pc' := (if c19.1 = (-1) then 333 else 337)) (lv' := [(0, .ref 0), (1, .int v1), (2, .int c1.1), (3, .int c5.1), (4, .int c8.1), (5, .int t14.1), (6, .int t14.2.1), (7, .ref A), (8, .int t14.2.2.1)]) (st' := []) (lay' := LAY c19.2.1) (h' := c19.2.2) 2 rfl ?_
                    refine pc_ite e (fun e => ?_) (fun e => ?_)
                    · refine seg_Bg (pc' := 338) (lv' := [(0, .ref 0), (1, .int v1), (2, .int c1.1), (3, .int c5.1), (4, .int c8.1), (5, .int t14.1), (6, .int t14.2.1), (7, .ref A), (8, .int t14.2.2.1)]) (st' := [.int 1]) (lay' := LAY c19.2.1) (h' := c19.2.2) 2 rfl ?_
                      rw [hR, ← Option.some.inj e]; exact ret_Bg rfl
                    · refine seg_Bg (pc' := 338) (lv' := [(0, .ref 0), (1, .int v1), (2, .int c1.1), (3, .int c5.1), (4, .int c8.1), (5, .int t14.1), (6, .int t14.2.1), (7, .ref A), (8, .int t14.2.2.1)]) (st' := [.int 0]) (lay' := LAY c19.2.1) (h' := c19.2.2) 1 rfl ?_
                      rw [hR, ← Option.some.inj e]; exact ret_Bg rfl
                  · refine seg_Bg (pc' := 338) (lv' := [(0, .ref 0), (1, .int v1), (2, .int c1.1), (3, .int c5.1), (4, .int c8.1), (5, .int t14.1), (6, .int t14.2.1), (7, .ref A), (8, .int t14.2.2.1)]) (st' := [.int 0]) (lay' := LAY c18.2.1) (h' := c18.2.2) 1 rfl ?_
                    rw [hR, ← Option.some.inj e]; exact ret_Bg rfl
                · refine seg_Bg (pc' := 338) (lv' := [(0, .ref 0), (1, .int v1), (2, .int c1.1), (3, .int c5.1), (4, .int c8.1), (5, .int t14.1), (6, .int t14.2.1), (7, .ref A), (8, .int t14.2.2.1)]) (st' := [.int 0]) (lay' := LAY c16.2.1) (h' := c16.2.2) 1 rfl ?_
                  rw [hR, ← Option.some.inj e]; exact ret_Bg rfl
              · refine seg_Bg (pc' := 338) (lv' := [(0, .ref 0), (1, .int v1), (2, .int c1.1), (3, .int c5.1), (4, .int c8.1), (5, .int t14.1), (6, .int t14.2.1), (7, .ref A), (8, .int t14.2.2.1)]) (st' := [.int 0]) (lay' := LAY c15.2.1) (h' := c15.2.2) 1 rfl ?_
                rw [hR, ← Option.some.inj e]; exact ret_Bg rfl
            · refine seg_Bg (pc' := 338) (lv' := [(0, .ref 0), (1, .int v1), (2, .int c1.1), (3, .int c5.1), (4, .int c8.1), (5, .int t14.1), (6, .int t14.2.1), (7, .ref A), (8, .int t14.2.2.1)]) (st' := [.int 0]) (lay' := LAY t14.2.2.2.1) (h' := t14.2.2.2.2) 1 rfl ?_
              rw [hR, ← Option.some.inj e]; exact ret_Bg rfl
          · rw [hR]; exact congrArg (fun r => (([.int r.1], LAY r.2.1, r.2.2) : List Value × Lay × Hp)) (Option.some.inj e).symm
      · refine seg_Bg (pc' := 134) (lv' := [(0, .ref 0), (1, .int v1), (2, .int c1.1), (3, .int c5.1)]) (st' := [.int 0]) (lay' := LAY c6.2.1) (h' := c6.2.2) 1 rfl ?_
        rw [hR, ← Option.some.inj e]; exact ret_Bg rfl

set_option maxRecDepth 100000 in
theorem BJw_isCheap_J81 (L : Nat) (xs : Nat → Int32) (v1 v2 v3 v4 v5 v6 v7 v8 v9 s1 : Int32) (h : Wd) (o : ((Int32 × Int32 × Int32 × Wd) ⊕ (Int32 × Int32 × Int32 × Wd))) (e : Jw_isCheap_J81 v1 v2 v3 v4 v5 v6 v7 v8 v9 s1 h = some o) (R : List Value × Lay × Hp) (hH : ∀ s : Int32 × Int32 × Int32 × Wd, o = .inl s → Bg L xs 135 51 [(0, .ref 0), (1, .int v1), (2, .int v2), (3, .int v3), (4, .int v4), (5, .int v5), (6, .int v6), (7, .int s.1), (8, .int s.2.1), (9, .int s.2.2.1)] [] (LAY s.2.2.2.1) s.2.2.2.2 R) (hE : ∀ t : Int32 × Int32 × Int32 × Wd, o = .inr t → Bg L xs 135 117 [(0, .ref 0), (1, .int v1), (2, .int v2), (3, .int v3), (4, .int v4), (5, .int v5), (6, .int v6), (7, .int t.1), (8, .int t.2.1), (9, .int t.2.2.1)] [] (LAY t.2.2.2.1) t.2.2.2.2 R) : Bg L xs 135 81 [(0, .ref 0), (1, .int v1), (2, .int v2), (3, .int v3), (4, .int v4), (5, .int v5), (6, .int v6), (7, .int v7), (8, .int v8), (9, .int v9)] [.int s1, .ref 0] (LAY h.1) h.2 R := by
  refine seg_Bg (pc' := 82) (lv' := [(0, .ref 0), (1, .int v1), (2, .int v2), (3, .int v3), (4, .int v4), (5, .int v5), (6, .int v6), (7, .int v7), (8, .int v8), (9, .int v9)]) (st' := [.int 0, .int s1, .ref 0]) (lay' := LAY h.1) (h' := h.2) 1 rfl ?_
  refine call_Bg (a := 116) (la := [(0, .ref 0), (1, .int s1), (2, .int 0)]) (np := 85) (lv' := [(0, .ref 0), (1, .int v1), (2, .int v2), (3, .int v3), (4, .int v4), (5, .int v5), (6, .int v6), (7, .int v7), (8, .int v8), (9, .int v9)]) (rest := []) (res := fun r => ([.int r.1], LAY r.2.1, r.2.2)) rfl e (fun r e => BOo_cost L xs s1 0 h r e) (fun c5 e => ?_)
  show Bg L xs 135 85 [(0, .ref 0), (1, .int v1), (2, .int v2), (3, .int v3), (4, .int v4), (5, .int v5), (6, .int v6), (7, .int v7), (8, .int v8), (9, .int v9)] [.int c5.1] (LAY c5.2.1) c5.2.2 R
  refine seg_Bg (pc' := (if v8 = 0 then 101 else 92)) (lv' := [(0, .ref 0), (1, .int v1), (2, .int v2), (3, .int v3), (4, .int v4), (5, .int v5), (6, .int v6), (7, .int v7), (8, .int v8), (9, .int v9), (10, .int c5.1)]) (st' := []) (lay' := LAY c5.2.1) (h' := c5.2.2) 3 rfl ?_
  refine pc_ite e (fun e => ?_) (fun e => ?_)
  · refine seg_Bg (pc' := 51) (lv' := [(0, .ref 0), (1, .int v1), (2, .int v2), (3, .int v3), (4, .int v4), (5, .int v5), (6, .int v6), (7, .int (v7 + c5.1)), (8, .int 0), (9, .int (v9 + 1)), (10, .int c5.1)]) (st' := []) (lay' := LAY c5.2.1) (h' := c5.2.2) 8 rfl ?_
    refine kp_Bg (lv' := [(0, .ref 0), (1, .int v1), (2, .int v2), (3, .int v3), (4, .int v4), (5, .int v5), (6, .int v6), (7, .int (v7 + c5.1)), (8, .int 0), (9, .int (v9 + 1))]) rfl rfl ?_
    exact hH (v7 + c5.1, 0, v9 + 1, c5.2) (Option.some.inj e).symm
  · refine seg_Bg (pc' := (if c5.1 < 0 then 101 else 97)) (lv' := [(0, .ref 0), (1, .int v1), (2, .int v2), (3, .int v3), (4, .int v4), (5, .int v5), (6, .int v6), (7, .int v7), (8, .int v8), (9, .int v9), (10, .int c5.1)]) (st' := []) (lay' := LAY c5.2.1) (h' := c5.2.2) 2 rfl ?_
    refine pc_ite e (fun e => ?_) (fun e => ?_)
    · refine seg_Bg (pc' := 51) (lv' := [(0, .ref 0), (1, .int v1), (2, .int v2), (3, .int v3), (4, .int v4), (5, .int v5), (6, .int v6), (7, .int (v7 + c5.1)), (8, .int 0), (9, .int (v9 + 1)), (10, .int c5.1)]) (st' := []) (lay' := LAY c5.2.1) (h' := c5.2.2) 8 rfl ?_
      refine kp_Bg (lv' := [(0, .ref 0), (1, .int v1), (2, .int v2), (3, .int v3), (4, .int v4), (5, .int v5), (6, .int v6), (7, .int (v7 + c5.1)), (8, .int 0), (9, .int (v9 + 1))]) rfl rfl ?_
      exact hH (v7 + c5.1, 0, v9 + 1, c5.2) (Option.some.inj e).symm
    · refine seg_Bg (pc' := 51) (lv' := [(0, .ref 0), (1, .int v1), (2, .int v2), (3, .int v3), (4, .int v4), (5, .int v5), (6, .int v6), (7, .int (v7 + c5.1)), (8, .int 1), (9, .int (v9 + 1)), (10, .int c5.1)]) (st' := []) (lay' := LAY c5.2.1) (h' := c5.2.2) 9 rfl ?_
      refine kp_Bg (lv' := [(0, .ref 0), (1, .int v1), (2, .int v2), (3, .int v3), (4, .int v4), (5, .int v5), (6, .int v6), (7, .int (v7 + c5.1)), (8, .int 1), (9, .int (v9 + 1))]) rfl rfl ?_
      exact hH (v7 + c5.1, 1, v9 + 1, c5.2) (Option.some.inj e).symm
set_option maxRecDepth 100000 in
theorem BJw_isCheap_L51_s (L : Nat) (xs : Nat → Int32) (v1 v2 v3 v4 v5 v6 : Int32) (R : List Value × Lay × Hp) (v7 v8 v9 : Int32) (h : Wd) (o : ((Int32 × Int32 × Int32 × Wd) ⊕ (Int32 × Int32 × Int32 × Wd))) (hH : ∀ s : Int32 × Int32 × Int32 × Wd, o = .inl s → Bg L xs 135 51 [(0, .ref 0), (1, .int v1), (2, .int v2), (3, .int v3), (4, .int v4), (5, .int v5), (6, .int v6), (7, .int s.1), (8, .int s.2.1), (9, .int s.2.2.1)] [] (LAY s.2.2.2.1) s.2.2.2.2 R) (hE : ∀ t : Int32 × Int32 × Int32 × Wd, o = .inr t → Bg L xs 135 117 [(0, .ref 0), (1, .int v1), (2, .int v2), (3, .int v3), (4, .int v4), (5, .int v5), (6, .int v6), (7, .int t.1), (8, .int t.2.1), (9, .int t.2.2.1)] [] (LAY t.2.2.2.1) t.2.2.2.2 R) (e : Jw_isCheap_L51 v1 v2 v3 v4 v5 v6 v7 v8 v9 h = some o) : Bg L xs 135 51 [(0, .ref 0), (1, .int v1), (2, .int v2), (3, .int v3), (4, .int v4), (5, .int v5), (6, .int v6), (7, .int v7), (8, .int v8), (9, .int v9)] [] (LAY h.1) h.2 R := by
  refine seg_Bg (pc' := (if v9 < v3 then 57 else 117)) (lv' := [(0, .ref 0), (1, .int v1), (2, .int v2), (3, .int v3), (4, .int v4), (5, .int v5), (6, .int v6), (7, .int v7), (8, .int v8), (9, .int v9)]) (st' := []) (lay' := LAY h.1) (h' := h.2) 3 rfl ?_
  refine pc_ite e (fun e => ?_) (fun e => ?_)
  · refine seg_Bg (pc' := (if v9 = 0 then 63 else 68)) (lv' := [(0, .ref 0), (1, .int v1), (2, .int v2), (3, .int v3), (4, .int v4), (5, .int v5), (6, .int v6), (7, .int v7), (8, .int v8), (9, .int v9)]) (st' := [.ref 0]) (lay' := LAY h.1) (h' := h.2) 3 rfl ?_
    refine pc_ite e (fun e => ?_) (fun e => ?_)
    · refine seg_Bg (pc' := 81) (lv' := [(0, .ref 0), (1, .int v1), (2, .int v2), (3, .int v3), (4, .int v4), (5, .int v5), (6, .int v6), (7, .int v7), (8, .int v8), (9, .int v9)]) (st' := [.int v4, .ref 0]) (lay' := LAY h.1) (h' := h.2) 2 rfl ?_
      exact BJw_isCheap_J81 L xs v1 v2 v3 v4 v5 v6 v7 v8 v9 v4 h o e R hH hE
    · refine seg_Bg (pc' := (if v9 = 1 then 74 else 79)) (lv' := [(0, .ref 0), (1, .int v1), (2, .int v2), (3, .int v3), (4, .int v4), (5, .int v5), (6, .int v6), (7, .int v7), (8, .int v8), (9, .int v9)]) (st' := [.ref 0]) (lay' := LAY h.1) (h' := h.2) 3 rfl ?_
      refine pc_ite e (fun e => ?_) (fun e => ?_)
      · refine seg_Bg (pc' := 81) (lv' := [(0, .ref 0), (1, .int v1), (2, .int v2), (3, .int v3), (4, .int v4), (5, .int v5), (6, .int v6), (7, .int v7), (8, .int v8), (9, .int v9)]) (st' := [.int v5, .ref 0]) (lay' := LAY h.1) (h' := h.2) 2 rfl ?_
        exact BJw_isCheap_J81 L xs v1 v2 v3 v4 v5 v6 v7 v8 v9 v5 h o e R hH hE
      · refine seg_Bg (pc' := 81) (lv' := [(0, .ref 0), (1, .int v1), (2, .int v2), (3, .int v3), (4, .int v4), (5, .int v5), (6, .int v6), (7, .int v7), (8, .int v8), (9, .int v9)]) (st' := [.int v6, .ref 0]) (lay' := LAY h.1) (h' := h.2) 1 rfl ?_
        exact BJw_isCheap_J81 L xs v1 v2 v3 v4 v5 v6 v7 v8 v9 v6 h o e R hH hE
  · exact hE (v7, v8, v9, h) (Option.some.inj e).symm
theorem BJw_isCheap_L51 (L : Nat) (xs : Nat → Int32) (v1 v2 v3 v4 v5 v6 : Int32) (R : List Value × Lay × Hp) (C : (Int32 × Int32 × Int32 × Wd) → Prop) (hE : ∀ t : Int32 × Int32 × Int32 × Wd, C t → Bg L xs 135 117 [(0, .ref 0), (1, .int v1), (2, .int v2), (3, .int v3), (4, .int v4), (5, .int v5), (6, .int v6), (7, .int t.1), (8, .int t.2.1), (9, .int t.2.2.1)] [] (LAY t.2.2.2.1) t.2.2.2.2 R) (n : Nat) (s : Int32 × Int32 × Int32 × Wd) (o : (Int32 × Int32 × Int32 × Wd)) (e : loopN n (fun s => Jw_isCheap_L51 v1 v2 v3 v4 v5 v6 s.1 s.2.1 s.2.2.1 s.2.2.2) s = some o) (hC : C o) : Bg L xs 135 51 [(0, .ref 0), (1, .int v1), (2, .int v2), (3, .int v3), (4, .int v4), (5, .int v5), (6, .int v6), (7, .int s.1), (8, .int s.2.1), (9, .int s.2.2.1)] [] (LAY s.2.2.2.1) s.2.2.2.2 R := by
  refine loop_B (fun s => Jw_isCheap_L51 v1 v2 v3 v4 v5 v6 s.1 s.2.1 s.2.2.1 s.2.2.2) (fun s : Int32 × Int32 × Int32 × Wd => Bg L xs 135 51 [(0, .ref 0), (1, .int v1), (2, .int v2), (3, .int v3), (4, .int v4), (5, .int v5), (6, .int v6), (7, .int s.1), (8, .int s.2.1), (9, .int s.2.2.1)] [] (LAY s.2.2.2.1) s.2.2.2.2 R) C (fun s o e => ?_) n s o e hC
  intro hK
  refine BJw_isCheap_L51_s L xs v1 v2 v3 v4 v5 v6 R s.1 s.2.1 s.2.2.1 s.2.2.2 o (fun s q => by subst q; exact hK) (fun t q => by subst q; exact hE t hK) e
set_option maxRecDepth 100000 in
theorem BJw_isCheap (L : Nat) (xs : Nat → Int32) (v1 : Int32) (v2 : Int32) (h : Wd) (o : Int32 × Wd) (e : Jw_isCheap v1 v2 h = some o) : Bg L xs 135 0 [(0, .ref 0), (1, .int v1), (2, .int v2)] [] (LAY h.1) h.2 ([.int o.1], LAY o.2.1, o.2.2) := by
  obtain ⟨R, hR⟩ : ∃ R : List Value × Lay × Hp, R = ([.int o.1], LAY o.2.1, o.2.2) := ⟨_, rfl⟩
  rw [← hR]
  refine seg_Bg (pc' := 3) (lv' := [(0, .ref 0), (1, .int v1), (2, .int v2)]) (st' := [.int 2, .int v1, .ref 0]) (lay' := LAY h.1) (h' := h.2) 3 rfl ?_
  refine call_Bg (a := 115) (la := [(0, .ref 0), (1, .int v1), (2, .int 2)]) (np := 6) (lv' := [(0, .ref 0), (1, .int v1), (2, .int v2)]) (rest := []) (res := fun r => ([.int r.1], LAY r.2.1, r.2.2)) rfl e (fun r e => BOo_function L xs v1 2 h r e) (fun c1 e => ?_)
  show Bg L xs 135 6 [(0, .ref 0), (1, .int v1), (2, .int v2)] [.int c1.1] (LAY c1.2.1) c1.2.2 R
  refine seg_Bg (pc' := 13) (lv' := [(0, .ref 0), (1, .int v1), (2, .int v2), (3, .int c1.1)]) (st' := [.int 256, .int (v2 >>> (2 &&& 31) : Int32)]) (lay' := LAY c1.2.1) (h' := c1.2.2) 5 rfl ?_
  refine call_Bg (a := 128) (la := [(0, .int (v2 >>> (2 &&& 31) : Int32)), (1, .int 256)]) (np := 16) (lv' := [(0, .ref 0), (1, .int v1), (2, .int v2), (3, .int c1.1)]) (rest := []) (res := fun r => ([.int r], LAY c1.2.1, c1.2.2)) rfl e (fun r e => BJw_low L xs (v2 >>> (2 &&& 31) : Int32) 256 (LAY c1.2.1) c1.2.2 r e) (fun c2 e => ?_)
  show Bg L xs 135 16 [(0, .ref 0), (1, .int v1), (2, .int v2), (3, .int c1.1)] [.int c2] (LAY c1.2.1) c1.2.2 R
  refine seg_Bg (pc' := 25) (lv' := [(0, .ref 0), (1, .int v1), (2, .int v2), (3, .int c1.1), (4, .int c2)]) (st' := [.int 256, .int (v2 >>> (10 &&& 31) : Int32)]) (lay' := LAY c1.2.1) (h' := c1.2.2) 5 rfl ?_
  refine call_Bg (a := 128) (la := [(0, .int (v2 >>> (10 &&& 31) : Int32)), (1, .int 256)]) (np := 28) (lv' := [(0, .ref 0), (1, .int v1), (2, .int v2), (3, .int c1.1), (4, .int c2)]) (rest := []) (res := fun r => ([.int r], LAY c1.2.1, c1.2.2)) rfl e (fun r e => BJw_low L xs (v2 >>> (10 &&& 31) : Int32) 256 (LAY c1.2.1) c1.2.2 r e) (fun c3 e => ?_)
  show Bg L xs 135 28 [(0, .ref 0), (1, .int v1), (2, .int v2), (3, .int c1.1), (4, .int c2)] [.int c3] (LAY c1.2.1) c1.2.2 R
  refine seg_Bg (pc' := 37) (lv' := [(0, .ref 0), (1, .int v1), (2, .int v2), (3, .int c1.1), (4, .int c2), (5, .int c3)]) (st' := [.int 256, .int (v2 >>> (18 &&& 31) : Int32)]) (lay' := LAY c1.2.1) (h' := c1.2.2) 5 rfl ?_
  refine call_Bg (a := 128) (la := [(0, .int (v2 >>> (18 &&& 31) : Int32)), (1, .int 256)]) (np := 40) (lv' := [(0, .ref 0), (1, .int v1), (2, .int v2), (3, .int c1.1), (4, .int c2), (5, .int c3)]) (rest := []) (res := fun r => ([.int r], LAY c1.2.1, c1.2.2)) rfl e (fun r e => BJw_low L xs (v2 >>> (18 &&& 31) : Int32) 256 (LAY c1.2.1) c1.2.2 r e) (fun c4 e => ?_)
  show Bg L xs 135 40 [(0, .ref 0), (1, .int v1), (2, .int v2), (3, .int c1.1), (4, .int c2), (5, .int c3)] [.int c4] (LAY c1.2.1) c1.2.2 R
  refine seg_Bg (pc' := 51) (lv' := [(0, .ref 0), (1, .int v1), (2, .int v2), (3, .int c1.1), (4, .int c2), (5, .int c3), (6, .int c4), (7, .int 1), (8, .int 1), (9, .int 0)]) (st' := []) (lay' := LAY c1.2.1) (h' := c1.2.2) 7 rfl ?_
  obtain ⟨t6o, et6o, e⟩ := bd_s e
  refine BJw_isCheap_L51 L xs v1 v2 c1.1 c2 c3 c4 R (fun (t6 : Int32 × Int32 × Int32 × Wd) => (bd (Oo_function v1 0 t6.2.2.2) fun c7 => bd (Jw_putOn c7.1 c2 c3 c4) fun c8 => bd (Oo_cost c8 0 c7.2) fun c9 => if t6.2.1 = 0 then some (1, c9.2) else if 9999 < t6.1 then some (1, c9.2) else if c9.1 < 0 then some (0, c9.2) else if t6.1 < c9.1 then some (0, c9.2) else some (1, c9.2)) = some o) (fun t6 e => ?_) 1000000 (1, 1, 0, c1.2) _ et6o e
  refine seg_Bg (pc' := 121) (lv' := [(0, .ref 0), (1, .int v1), (2, .int v2), (3, .int c1.1), (4, .int c2), (5, .int c3), (6, .int c4), (7, .int t6.1), (8, .int t6.2.1), (9, .int t6.2.2.1)]) (st' := [.int 0, .int v1, .ref 0, .ref 0]) (lay' := LAY t6.2.2.2.1) (h' := t6.2.2.2.2) 4 rfl ?_
  refine call_Bg (a := 115) (la := [(0, .ref 0), (1, .int v1), (2, .int 0)]) (np := 124) (lv' := [(0, .ref 0), (1, .int v1), (2, .int v2), (3, .int c1.1), (4, .int c2), (5, .int c3), (6, .int c4), (7, .int t6.1), (8, .int t6.2.1), (9, .int t6.2.2.1)]) (rest := [.ref 0]) (res := fun r => ([.int r.1], LAY r.2.1, r.2.2)) rfl e (fun r e => BOo_function L xs v1 0 t6.2.2.2 r e) (fun c7 e => ?_)
  show Bg L xs 135 124 [(0, .ref 0), (1, .int v1), (2, .int v2), (3, .int c1.1), (4, .int c2), (5, .int c3), (6, .int c4), (7, .int t6.1), (8, .int t6.2.1), (9, .int t6.2.2.1)] [.int c7.1, .ref 0] (LAY c7.2.1) c7.2.2 R
  refine seg_Bg (pc' := 130) (lv' := [(0, .ref 0), (1, .int v1), (2, .int v2), (3, .int c1.1), (4, .int c2), (5, .int c3), (6, .int c4), (7, .int t6.1), (8, .int t6.2.1), (9, .int t6.2.2.1)]) (st' := [.int c4, .int c3, .int c2, .int c7.1, .ref 0]) (lay' := LAY c7.2.1) (h' := c7.2.2) 3 rfl ?_
  refine call_Bg (a := 133) (la := [(0, .int c7.1), (1, .int c2), (2, .int c3), (3, .int c4)]) (np := 133) (lv' := [(0, .ref 0), (1, .int v1), (2, .int v2), (3, .int c1.1), (4, .int c2), (5, .int c3), (6, .int c4), (7, .int t6.1), (8, .int t6.2.1), (9, .int t6.2.2.1)]) (rest := [.ref 0]) (res := fun r => ([.int r], LAY c7.2.1, c7.2.2)) rfl e (fun r e => BJw_putOn L xs c7.1 c2 c3 c4 (LAY c7.2.1) c7.2.2 r e) (fun c8 e => ?_)
  show Bg L xs 135 133 [(0, .ref 0), (1, .int v1), (2, .int v2), (3, .int c1.1), (4, .int c2), (5, .int c3), (6, .int c4), (7, .int t6.1), (8, .int t6.2.1), (9, .int t6.2.2.1)] [.int c8, .ref 0] (LAY c7.2.1) c7.2.2 R
  refine seg_Bg (pc' := 134) (lv' := [(0, .ref 0), (1, .int v1), (2, .int v2), (3, .int c1.1), (4, .int c2), (5, .int c3), (6, .int c4), (7, .int t6.1), (8, .int t6.2.1), (9, .int t6.2.2.1)]) (st' := [.int 0, .int c8, .ref 0]) (lay' := LAY c7.2.1) (h' := c7.2.2) 1 rfl ?_
  refine call_Bg (a := 116) (la := [(0, .ref 0), (1, .int c8), (2, .int 0)]) (np := 137) (lv' := [(0, .ref 0), (1, .int v1), (2, .int v2), (3, .int c1.1), (4, .int c2), (5, .int c3), (6, .int c4), (7, .int t6.1), (8, .int t6.2.1), (9, .int t6.2.2.1)]) (rest := []) (res := fun r => ([.int r.1], LAY r.2.1, r.2.2)) rfl e (fun r e => BOo_cost L xs c8 0 c7.2 r e) (fun c9 e => ?_)
  show Bg L xs 135 137 [(0, .ref 0), (1, .int v1), (2, .int v2), (3, .int c1.1), (4, .int c2), (5, .int c3), (6, .int c4), (7, .int t6.1), (8, .int t6.2.1), (9, .int t6.2.2.1)] [.int c9.1] (LAY c9.2.1) c9.2.2 R
  refine seg_Bg (pc' := (if t6.2.1 = 0 then 164 else 144)) (lv' := [(0, .ref 0), (1, .int v1), (2, .int v2), (3, .int c1.1), (4, .int c2), (5, .int c3), (6, .int c4), (7, .int t6.1), (8, .int t6.2.1), (9, .int c9.1)]) (st' := []) (lay' := LAY c9.2.1) (h' := c9.2.2) 3 rfl ?_
  refine pc_ite e (fun e => ?_) (fun e => ?_)
  · refine seg_Bg (pc' := 169) (lv' := [(0, .ref 0), (1, .int v1), (2, .int v2), (3, .int c1.1), (4, .int c2), (5, .int c3), (6, .int c4), (7, .int t6.1), (8, .int t6.2.1), (9, .int c9.1)]) (st' := [.int 1]) (lay' := LAY c9.2.1) (h' := c9.2.2) 2 rfl ?_
    rw [hR, ← Option.some.inj e]; exact ret_Bg rfl
  · refine seg_Bg (pc' := (if 9999 < t6.1 then 164 else 152)) (lv' := [(0, .ref 0), (1, .int v1), (2, .int v2), (3, .int c1.1), (4, .int c2), (5, .int c3), (6, .int c4), (7, .int t6.1), (8, .int t6.2.1), (9, .int c9.1)]) (st' := []) (lay' := LAY c9.2.1) (h' := c9.2.2) 3 rfl ?_
    refine pc_ite e (fun e => ?_) (fun e => ?_)
    · refine seg_Bg (pc' := 169) (lv' := [(0, .ref 0), (1, .int v1), (2, .int v2), (3, .int c1.1), (4, .int c2), (5, .int c3), (6, .int c4), (7, .int t6.1), (8, .int t6.2.1), (9, .int c9.1)]) (st' := [.int 1]) (lay' := LAY c9.2.1) (h' := c9.2.2) 2 rfl ?_
      rw [hR, ← Option.some.inj e]; exact ret_Bg rfl
    · refine seg_Bg (pc' := (if c9.1 < 0 then 168 else 157)) (lv' := [(0, .ref 0), (1, .int v1), (2, .int v2), (3, .int c1.1), (4, .int c2), (5, .int c3), (6, .int c4), (7, .int t6.1), (8, .int t6.2.1), (9, .int c9.1)]) (st' := []) (lay' := LAY c9.2.1) (h' := c9.2.2) 2 rfl ?_
      refine pc_ite e (fun e => ?_) (fun e => ?_)
      · refine seg_Bg (pc' := 169) (lv' := [(0, .ref 0), (1, .int v1), (2, .int v2), (3, .int c1.1), (4, .int c2), (5, .int c3), (6, .int c4), (7, .int t6.1), (8, .int t6.2.1), (9, .int c9.1)]) (st' := [.int 0]) (lay' := LAY c9.2.1) (h' := c9.2.2) 1 rfl ?_
        rw [hR, ← Option.some.inj e]; exact ret_Bg rfl
      · refine seg_Bg (pc' := (if t6.1 < c9.1 then 168 else 164)) (lv' := [(0, .ref 0), (1, .int v1), (2, .int v2), (3, .int c1.1), (4, .int c2), (5, .int c3), (6, .int c4), (7, .int t6.1), (8, .int t6.2.1), (9, .int c9.1)]) (st' := []) (lay' := LAY c9.2.1) (h' := c9.2.2) 3 rfl ?_
        refine pc_ite e (fun e => ?_) (fun e => ?_)
        · refine seg_Bg (pc' := 169) (lv' := [(0, .ref 0), (1, .int v1), (2, .int v2), (3, .int c1.1), (4, .int c2), (5, .int c3), (6, .int c4), (7, .int t6.1), (8, .int t6.2.1), (9, .int c9.1)]) (st' := [.int 0]) (lay' := LAY c9.2.1) (h' := c9.2.2) 1 rfl ?_
          rw [hR, ← Option.some.inj e]; exact ret_Bg rfl
        · refine seg_Bg (pc' := 169) (lv' := [(0, .ref 0), (1, .int v1), (2, .int v2), (3, .int c1.1), (4, .int c2), (5, .int c3), (6, .int c4), (7, .int t6.1), (8, .int t6.2.1), (9, .int c9.1)]) (st' := [.int 1]) (lay' := LAY c9.2.1) (h' := c9.2.2) 2 rfl ?_
          rw [hR, ← Option.some.inj e]; exact ret_Bg rfl

set_option maxRecDepth 100000 in
theorem BJw_law_L31_s (L : Nat) (xs : Nat → Int32) (v3 : Int32) (R : List Value × Lay × Hp) (v4 : Int32) (h : Wd) (o : ((Int32 × Wd) ⊕ ((Int32 × Wd) ⊕ (Int32 × Wd)))) (hH : ∀ s : Int32 × Wd, o = .inl s → Bg L xs 136 31 [(0, .retAddr 0), (1, .ref 0), (2, .ref 37), (3, .int v3), (4, .int s.1)] [] (LAY s.2.1) s.2.2 R) (hE : ∀ t : Int32 × Wd, o = .inr (.inl t) → Bg L xs 136 80 [(0, .retAddr 0), (1, .ref 0), (2, .ref 37), (3, .int v3), (4, .int t.1)] [] (LAY t.2.1) t.2.2 R) (hR : ∀ r : Int32 × Wd, o = .inr (.inr r) → R = ([.int r.1], LAY r.2.1, r.2.2)) (e : Jw_law_L31 L xs v3 v4 h = some o) : Bg L xs 136 31 [(0, .retAddr 0), (1, .ref 0), (2, .ref 37), (3, .int v3), (4, .int v4)] [] (LAY h.1) h.2 R := by
  refine seg_Bg (pc' := (if v4 < v3 then 37 else 80)) (lv' := [(0, .retAddr 0), (1, .ref 0), (2, .ref 37), (3, .int v3), (4, .int v4)]) (st' := []) (lay' := LAY h.1) (h' := h.2) 3 rfl ?_
  refine pc_ite e (fun e => ?_) (fun e => ?_)
  · refine seg_Bg (pc' := 42) (lv' := [(0, .retAddr 0), (1, .ref 0), (2, .ref 37), (3, .int v3), (4, .int v4)]) (st' := [.int ((1 : Int32) + v4), .retAddr 0]) (lay' := LAY h.1) (h' := h.2) 4 rfl ?_
    refine call_Bg (a := 127) (la := [(0, .retAddr 0), (1, .int ((1 : Int32) + v4))]) (np := 45) (lv' := [(0, .retAddr 0), (1, .ref 0), (2, .ref 37), (3, .int v3), (4, .int v4)]) (rest := []) (res := fun r => ([.int r], LAY h.1, h.2)) rfl e (fun r e => BJw_cell L xs ((1 : Int32) + v4) (LAY h.1) h.2 r e) (fun c3 e => ?_)
    show Bg L xs 136 45 [(0, .retAddr 0), (1, .ref 0), (2, .ref 37), (3, .int v3), (4, .int v4)] [.int c3] (LAY h.1) h.2 R
    refine call_Bg (a := 132) (la := [(0, .int c3)]) (np := 48) (lv' := [(0, .retAddr 0), (1, .ref 0), (2, .ref 37), (3, .int v3), (4, .int v4)]) (rest := []) (res := fun r => ([.int r], LAY h.1, h.2)) rfl e (fun r e => BJw_drawn L xs c3 (LAY h.1) h.2 r e) (fun c4 e => ?_)
    show Bg L xs 136 48 [(0, .retAddr 0), (1, .ref 0), (2, .ref 37), (3, .int v3), (4, .int v4)] [.int c4] (LAY h.1) h.2 R
    refine seg_Bg (pc' := 55) (lv' := [(0, .retAddr 0), (1, .ref 0), (2, .ref 37), (3, .int v3), (4, .int v4), (5, .int c4)]) (st' := [.int v4, .int c4, .ref 0]) (lay' := LAY h.1) (h' := h.2) 4 rfl ?_
    refine call_Bg (a := 131) (la := [(0, .ref 0), (1, .int c4), (2, .int v4)]) (np := 58) (lv' := [(0, .retAddr 0), (1, .ref 0), (2, .ref 37), (3, .int v3), (4, .int v4), (5, .int c4)]) (rest := []) (res := fun r => ([.int r.1], LAY r.2.1, r.2.2)) rfl e (fun r e => BJw_told L xs c4 v4 h r e) (fun c5 e => ?_)
    show Bg L xs 136 58 [(0, .retAddr 0), (1, .ref 0), (2, .ref 37), (3, .int v3), (4, .int v4), (5, .int c4)] [.int c5.1] (LAY c5.2.1) c5.2.2 R
    refine seg_Bg (pc' := (if c5.1 = 0 then 72 else 61)) (lv' := [(0, .retAddr 0), (1, .ref 0), (2, .ref 37), (3, .int v3), (4, .int v4), (5, .int c4)]) (st' := []) (lay' := LAY c5.2.1) (h' := c5.2.2) 1 rfl ?_
    refine pc_ite e (fun e => ?_) (fun e => ?_)
    · refine seg_Bg (pc' := 73) (lv' := [(0, .retAddr 0), (1, .ref 0), (2, .ref 37), (3, .int v3), (4, .int v4), (5, .int c4)]) (st' := [.int 0]) (lay' := LAY c5.2.1) (h' := c5.2.2) 1 rfl ?_
      rw [hR (0, c5.2) (Option.some.inj e).symm]; exact ret_Bg rfl
    · refine seg_Bg (pc' := 66) (lv' := [(0, .retAddr 0), (1, .ref 0), (2, .ref 37), (3, .int v3), (4, .int v4), (5, .int c4)]) (st' := [.int v4, .int c4, .ref 37]) (lay' := LAY c5.2.1) (h' := c5.2.2) 3 rfl ?_
      refine call_Bg (a := 131) (la := [(0, .ref 37), (1, .int c4), (2, .int v4)]) (np := 69) (lv' := [(0, .retAddr 0), (1, .ref 0), (2, .ref 37), (3, .int v3), (4, .int v4), (5, .int c4)]) (rest := []) (res := fun r => ([.int r.1], LAY r.2.1, r.2.2)) rfl e (fun r e => BJw_told_1 L xs c4 v4 c5.2 r e) (fun c6 e => ?_)
      show Bg L xs 136 69 [(0, .retAddr 0), (1, .ref 0), (2, .ref 37), (3, .int v3), (4, .int v4), (5, .int c4)] [.int c6.1] (LAY c6.2.1) c6.2.2 R
      refine seg_Bg (pc' := (if c6.1 = 0 then 72 else 74)) (lv' := [(0, .retAddr 0), (1, .ref 0), (2, .ref 37), (3, .int v3), (4, .int v4), (5, .int c4)]) (st' := []) (lay' := LAY c6.2.1) (h' := c6.2.2) 1 rfl ?_
      refine pc_ite e (fun e => ?_) (fun e => ?_)
      · refine seg_Bg (pc' := 73) (lv' := [(0, .retAddr 0), (1, .ref 0), (2, .ref 37), (3, .int v3), (4, .int v4), (5, .int c4)]) (st' := [.int 0]) (lay' := LAY c6.2.1) (h' := c6.2.2) 1 rfl ?_
        rw [hR (0, c6.2) (Option.some.inj e).symm]; exact ret_Bg rfl
      · refine seg_Bg (pc' := 31) (lv' := [(0, .retAddr 0), (1, .ref 0), (2, .ref 37), (3, .int v3), (4, .int (v4 + 1)), (5, .int c4)]) (st' := []) (lay' := LAY c6.2.1) (h' := c6.2.2) 2 rfl ?_
        refine kp_Bg (lv' := [(0, .retAddr 0), (1, .ref 0), (2, .ref 37), (3, .int v3), (4, .int (v4 + 1))]) rfl rfl ?_
        exact hH (v4 + 1, c6.2) (Option.some.inj e).symm
  · exact hE (v4, h) (Option.some.inj e).symm
theorem BJw_law_L31 (L : Nat) (xs : Nat → Int32) (v3 : Int32) (R : List Value × Lay × Hp) (C : ((Int32 × Wd) ⊕ (Int32 × Wd)) → Prop) (hE : ∀ t : Int32 × Wd, C (.inl t) → Bg L xs 136 80 [(0, .retAddr 0), (1, .ref 0), (2, .ref 37), (3, .int v3), (4, .int t.1)] [] (LAY t.2.1) t.2.2 R) (hR : ∀ r : Int32 × Wd, C (.inr r) → R = ([.int r.1], LAY r.2.1, r.2.2)) (n : Nat) (s : Int32 × Wd) (o : ((Int32 × Wd) ⊕ (Int32 × Wd))) (e : loopN n (fun s => Jw_law_L31 L xs v3 s.1 s.2) s = some o) (hC : C o) : Bg L xs 136 31 [(0, .retAddr 0), (1, .ref 0), (2, .ref 37), (3, .int v3), (4, .int s.1)] [] (LAY s.2.1) s.2.2 R := by
  refine loop_B (fun s => Jw_law_L31 L xs v3 s.1 s.2) (fun s : Int32 × Wd => Bg L xs 136 31 [(0, .retAddr 0), (1, .ref 0), (2, .ref 37), (3, .int v3), (4, .int s.1)] [] (LAY s.2.1) s.2.2 R) C (fun s o e => ?_) n s o e hC
  intro hK
  refine BJw_law_L31_s L xs v3 R s.1 s.2 o (fun s q => by subst q; exact hK) (fun t q => by subst q; exact hE t hK) (fun r q => by subst q; exact hR r hK) e
set_option maxRecDepth 100000 in
theorem BJw_law_J150 (L : Nat) (xs : Nat → Int32) (v3 v4 v5 v6 v7 v8 s0 : Int32) (h : Wd) (o : ((Int32 × Int32 × Int32 × Wd) ⊕ ((Int32 × Int32 × Int32 × Wd) ⊕ (Int32 × Wd)))) (e : Jw_law_J150 L xs v3 v4 v5 v6 v7 v8 s0 h = some o) (R : List Value × Lay × Hp) (hH : ∀ s : Int32 × Int32 × Int32 × Wd, o = .inl s → Bg L xs 136 119 [(0, .retAddr 0), (1, .ref 0), (2, .ref 37), (3, .int v3), (4, .int v4), (5, .int s.1), (6, .int s.2.1), (7, .int s.2.2.1)] [] (LAY s.2.2.2.1) s.2.2.2.2 R) (hE : ∀ t : Int32 × Int32 × Int32 × Wd, o = .inr (.inl t) → Bg L xs 136 185 [(0, .retAddr 0), (1, .ref 0), (2, .ref 37), (3, .int v3), (4, .int v4), (5, .int t.1), (6, .int t.2.1), (7, .int t.2.2.1)] [] (LAY t.2.2.2.1) t.2.2.2.2 R) (hR : ∀ r : Int32 × Wd, o = .inr (.inr r) → R = ([.int r.1], LAY r.2.1, r.2.2)) : Bg L xs 136 150 [(0, .retAddr 0), (1, .ref 0), (2, .ref 37), (3, .int v3), (4, .int v4), (5, .int v5), (6, .int v6), (7, .int v7), (8, .int v8)] [.int s0] (LAY h.1) h.2 R := by
  refine seg_Bg (pc' := (if v6 < v8 then 159 else 164)) (lv' := [(0, .retAddr 0), (1, .ref 0), (2, .ref 37), (3, .int v3), (4, .int v4), (5, .int s0), (6, .int v6), (7, .int v7), (8, .int v8)]) (st' := []) (lay' := LAY h.1) (h' := h.2) 4 rfl ?_
  refine pc_ite e (fun e => ?_) (fun e => ?_)
  · refine seg_Bg (pc' := 171) (lv' := [(0, .retAddr 0), (1, .ref 0), (2, .ref 37), (3, .int v3), (4, .int v4), (5, .int s0), (6, .int v8), (7, .int v7), (8, .int v8)]) (st' := [.int v7, .ref 0]) (lay' := LAY h.1) (h' := h.2) 5 rfl ?_
    refine call_Bg (a := 134) (la := [(0, .ref 0), (1, .int v7)]) (np := 174) (lv' := [(0, .retAddr 0), (1, .ref 0), (2, .ref 37), (3, .int v3), (4, .int v4), (5, .int s0), (6, .int v8), (7, .int v7), (8, .int v8)]) (rest := []) (res := fun r => ([.int r.1], LAY r.2.1, r.2.2)) rfl e (fun r e => BJw_isMade L xs (h.1.length + 74) v7 h r e) (fun c13 e => ?_)
    show Bg L xs 136 174 [(0, .retAddr 0), (1, .ref 0), (2, .ref 37), (3, .int v3), (4, .int v4), (5, .int s0), (6, .int v8), (7, .int v7), (8, .int v8)] [.int c13.1] (LAY c13.2.1) c13.2.2 R
    refine seg_Bg (pc' := (if c13.1 = 0 then 177 else 179)) (lv' := [(0, .retAddr 0), (1, .ref 0), (2, .ref 37), (3, .int v3), (4, .int v4), (5, .int s0), (6, .int v8), (7, .int v7), (8, .int v8)]) (st' := []) (lay' := LAY c13.2.1) (h' := c13.2.2) 1 rfl ?_
    refine pc_ite e (fun e => ?_) (fun e => ?_)
    · refine seg_Bg (pc' := 178) (lv' := [(0, .retAddr 0), (1, .ref 0), (2, .ref 37), (3, .int v3), (4, .int v4), (5, .int s0), (6, .int v8), (7, .int v7), (8, .int v8)]) (st' := [.int 0]) (lay' := LAY c13.2.1) (h' := c13.2.2) 1 rfl ?_
      rw [hR (0, c13.2) (Option.some.inj e).symm]; exact ret_Bg rfl
    · refine seg_Bg (pc' := 119) (lv' := [(0, .retAddr 0), (1, .ref 0), (2, .ref 37), (3, .int v3), (4, .int v4), (5, .int s0), (6, .int v8), (7, .int (v7 + 1)), (8, .int v8)]) (st' := []) (lay' := LAY c13.2.1) (h' := c13.2.2) 2 rfl ?_
      refine kp_Bg (lv' := [(0, .retAddr 0), (1, .ref 0), (2, .ref 37), (3, .int v3), (4, .int v4), (5, .int s0), (6, .int v8), (7, .int (v7 + 1))]) rfl rfl ?_
      exact hH (s0, v8, v7 + 1, c13.2) (Option.some.inj e).symm
  · refine seg_Bg (pc' := 171) (lv' := [(0, .retAddr 0), (1, .ref 0), (2, .ref 37), (3, .int v3), (4, .int v4), (5, .int s0), (6, .int v6), (7, .int v7), (8, .int v8)]) (st' := [.int v7, .ref 0]) (lay' := LAY h.1) (h' := h.2) 4 rfl ?_
    refine call_Bg (a := 134) (la := [(0, .ref 0), (1, .int v7)]) (np := 174) (lv' := [(0, .retAddr 0), (1, .ref 0), (2, .ref 37), (3, .int v3), (4, .int v4), (5, .int s0), (6, .int v6), (7, .int v7), (8, .int v8)]) (rest := []) (res := fun r => ([.int r.1], LAY r.2.1, r.2.2)) rfl e (fun r e => BJw_isMade L xs (h.1.length + 74) v7 h r e) (fun c14 e => ?_)
    show Bg L xs 136 174 [(0, .retAddr 0), (1, .ref 0), (2, .ref 37), (3, .int v3), (4, .int v4), (5, .int s0), (6, .int v6), (7, .int v7), (8, .int v8)] [.int c14.1] (LAY c14.2.1) c14.2.2 R
    refine seg_Bg (pc' := (if c14.1 = 0 then 177 else 179)) (lv' := [(0, .retAddr 0), (1, .ref 0), (2, .ref 37), (3, .int v3), (4, .int v4), (5, .int s0), (6, .int v6), (7, .int v7), (8, .int v8)]) (st' := []) (lay' := LAY c14.2.1) (h' := c14.2.2) 1 rfl ?_
    refine pc_ite e (fun e => ?_) (fun e => ?_)
    · refine seg_Bg (pc' := 178) (lv' := [(0, .retAddr 0), (1, .ref 0), (2, .ref 37), (3, .int v3), (4, .int v4), (5, .int s0), (6, .int v6), (7, .int v7), (8, .int v8)]) (st' := [.int 0]) (lay' := LAY c14.2.1) (h' := c14.2.2) 1 rfl ?_
      rw [hR (0, c14.2) (Option.some.inj e).symm]; exact ret_Bg rfl
    · refine seg_Bg (pc' := 119) (lv' := [(0, .retAddr 0), (1, .ref 0), (2, .ref 37), (3, .int v3), (4, .int v4), (5, .int s0), (6, .int v6), (7, .int (v7 + 1)), (8, .int v8)]) (st' := []) (lay' := LAY c14.2.1) (h' := c14.2.2) 2 rfl ?_
      refine kp_Bg (lv' := [(0, .retAddr 0), (1, .ref 0), (2, .ref 37), (3, .int v3), (4, .int v4), (5, .int s0), (6, .int v6), (7, .int (v7 + 1))]) rfl rfl ?_
      exact hH (s0, v6, v7 + 1, c14.2) (Option.some.inj e).symm
set_option maxRecDepth 100000 in
theorem BJw_law_L119_s (L : Nat) (xs : Nat → Int32) (v3 v4 : Int32) (R : List Value × Lay × Hp) (v5 v6 v7 : Int32) (h : Wd) (o : ((Int32 × Int32 × Int32 × Wd) ⊕ ((Int32 × Int32 × Int32 × Wd) ⊕ (Int32 × Wd)))) (hH : ∀ s : Int32 × Int32 × Int32 × Wd, o = .inl s → Bg L xs 136 119 [(0, .retAddr 0), (1, .ref 0), (2, .ref 37), (3, .int v3), (4, .int v4), (5, .int s.1), (6, .int s.2.1), (7, .int s.2.2.1)] [] (LAY s.2.2.2.1) s.2.2.2.2 R) (hE : ∀ t : Int32 × Int32 × Int32 × Wd, o = .inr (.inl t) → Bg L xs 136 185 [(0, .retAddr 0), (1, .ref 0), (2, .ref 37), (3, .int v3), (4, .int v4), (5, .int t.1), (6, .int t.2.1), (7, .int t.2.2.1)] [] (LAY t.2.2.2.1) t.2.2.2.2 R) (hR : ∀ r : Int32 × Wd, o = .inr (.inr r) → R = ([.int r.1], LAY r.2.1, r.2.2)) (e : Jw_law_L119 L xs v3 v4 v5 v6 v7 h = some o) : Bg L xs 136 119 [(0, .retAddr 0), (1, .ref 0), (2, .ref 37), (3, .int v3), (4, .int v4), (5, .int v5), (6, .int v6), (7, .int v7)] [] (LAY h.1) h.2 R := by
  refine seg_Bg (pc' := (if v7 < 256 then 127 else 185)) (lv' := [(0, .retAddr 0), (1, .ref 0), (2, .ref 37), (3, .int v3), (4, .int v4), (5, .int v5), (6, .int v6), (7, .int v7)]) (st' := []) (lay' := LAY h.1) (h' := h.2) 3 rfl ?_
  refine pc_ite e (fun e => ?_) (fun e => ?_)
  · refine seg_Bg (pc' := 131) (lv' := [(0, .retAddr 0), (1, .ref 0), (2, .ref 37), (3, .int v3), (4, .int v4), (5, .int v5), (6, .int v6), (7, .int v7)]) (st' := [.int 0, .int v7, .ref 0]) (lay' := LAY h.1) (h' := h.2) 3 rfl ?_
    refine call_Bg (a := 116) (la := [(0, .ref 0), (1, .int v7), (2, .int 0)]) (np := 134) (lv' := [(0, .retAddr 0), (1, .ref 0), (2, .ref 37), (3, .int v3), (4, .int v4), (5, .int v5), (6, .int v6), (7, .int v7)]) (rest := []) (res := fun r => ([.int r.1], LAY r.2.1, r.2.2)) rfl e (fun r e => BOo_cost L xs v7 0 h r e) (fun c12 e => ?_)
    show Bg L xs 136 134 [(0, .retAddr 0), (1, .ref 0), (2, .ref 37), (3, .int v3), (4, .int v4), (5, .int v5), (6, .int v6), (7, .int v7)] [.int c12.1] (LAY c12.2.1) c12.2.2 R
    refine seg_Bg (pc' := (if c12.1 < 0 then 141 else 146)) (lv' := [(0, .retAddr 0), (1, .ref 0), (2, .ref 37), (3, .int v3), (4, .int v4), (5, .int v5), (6, .int v6), (7, .int v7), (8, .int c12.1)]) (st' := []) (lay' := LAY c12.2.1) (h' := c12.2.2) 3 rfl ?_
    refine pc_ite e (fun e => ?_) (fun e => ?_)
    · refine seg_Bg (pc' := 150) (lv' := [(0, .retAddr 0), (1, .ref 0), (2, .ref 37), (3, .int v3), (4, .int v4), (5, .int v5), (6, .int v6), (7, .int v7), (8, .int c12.1)]) (st' := [.int v5]) (lay' := LAY c12.2.1) (h' := c12.2.2) 2 rfl ?_
      exact BJw_law_J150 L xs v3 v4 v5 v6 v7 c12.1 v5 c12.2 o e R hH hE hR
    · refine seg_Bg (pc' := 150) (lv' := [(0, .retAddr 0), (1, .ref 0), (2, .ref 37), (3, .int v3), (4, .int v4), (5, .int v5), (6, .int v6), (7, .int v7), (8, .int c12.1)]) (st' := [.int (v5 + (1 : Int32))]) (lay' := LAY c12.2.1) (h' := c12.2.2) 3 rfl ?_
      exact BJw_law_J150 L xs v3 v4 v5 v6 v7 c12.1 (v5 + (1 : Int32)) c12.2 o e R hH hE hR
  · exact hE (v5, v6, v7, h) (Option.some.inj e).symm
theorem BJw_law_L119 (L : Nat) (xs : Nat → Int32) (v3 v4 : Int32) (R : List Value × Lay × Hp) (C : ((Int32 × Int32 × Int32 × Wd) ⊕ (Int32 × Wd)) → Prop) (hE : ∀ t : Int32 × Int32 × Int32 × Wd, C (.inl t) → Bg L xs 136 185 [(0, .retAddr 0), (1, .ref 0), (2, .ref 37), (3, .int v3), (4, .int v4), (5, .int t.1), (6, .int t.2.1), (7, .int t.2.2.1)] [] (LAY t.2.2.2.1) t.2.2.2.2 R) (hR : ∀ r : Int32 × Wd, C (.inr r) → R = ([.int r.1], LAY r.2.1, r.2.2)) (n : Nat) (s : Int32 × Int32 × Int32 × Wd) (o : ((Int32 × Int32 × Int32 × Wd) ⊕ (Int32 × Wd))) (e : loopN n (fun s => Jw_law_L119 L xs v3 v4 s.1 s.2.1 s.2.2.1 s.2.2.2) s = some o) (hC : C o) : Bg L xs 136 119 [(0, .retAddr 0), (1, .ref 0), (2, .ref 37), (3, .int v3), (4, .int v4), (5, .int s.1), (6, .int s.2.1), (7, .int s.2.2.1)] [] (LAY s.2.2.2.1) s.2.2.2.2 R := by
  refine loop_B (fun s => Jw_law_L119 L xs v3 v4 s.1 s.2.1 s.2.2.1 s.2.2.2) (fun s : Int32 × Int32 × Int32 × Wd => Bg L xs 136 119 [(0, .retAddr 0), (1, .ref 0), (2, .ref 37), (3, .int v3), (4, .int v4), (5, .int s.1), (6, .int s.2.1), (7, .int s.2.2.1)] [] (LAY s.2.2.2.1) s.2.2.2.2 R) C (fun s o e => ?_) n s o e hC
  intro hK
  refine BJw_law_L119_s L xs v3 v4 R s.1 s.2.1 s.2.2.1 s.2.2.2 o (fun s q => by subst q; exact hK) (fun t q => by subst q; exact hE t hK) (fun r q => by subst q; exact hR r hK) e
set_option maxRecDepth 100000 in
theorem BJw_law_L227_s (L : Nat) (xs : Nat → Int32) (v3 v4 v5 v6 : Int32) (R : List Value × Lay × Hp) (v7 : Int32) (h : Wd) (o : ((Int32 × Wd) ⊕ ((Int32 × Wd) ⊕ (Int32 × Wd)))) (hH : ∀ s : Int32 × Wd, o = .inl s → Bg L xs 136 227 [(0, .retAddr 0), (1, .ref 0), (2, .ref 37), (3, .int v3), (4, .int v4), (5, .int v5), (6, .int v6), (7, .int s.1)] [] (LAY s.2.1) s.2.2 R) (hE : ∀ t : Int32 × Wd, o = .inr (.inl t) → Bg L xs 136 287 [(0, .retAddr 0), (1, .ref 0), (2, .ref 37), (3, .int v3), (4, .int v4), (5, .int v5), (6, .int v6), (7, .int t.1)] [] (LAY t.2.1) t.2.2 R) (hR : ∀ r : Int32 × Wd, o = .inr (.inr r) → R = ([.int r.1], LAY r.2.1, r.2.2)) (e : Jw_law_L227 L xs v3 v4 v5 v6 v7 h = some o) : Bg L xs 136 227 [(0, .retAddr 0), (1, .ref 0), (2, .ref 37), (3, .int v3), (4, .int v4), (5, .int v5), (6, .int v6), (7, .int v7)] [] (LAY h.1) h.2 R := by
  refine seg_Bg (pc' := (if v7 < 60 then 234 else 287)) (lv' := [(0, .retAddr 0), (1, .ref 0), (2, .ref 37), (3, .int v3), (4, .int v4), (5, .int v5), (6, .int v6), (7, .int v7)]) (st' := []) (lay' := LAY h.1) (h' := h.2) 3 rfl ?_
  refine pc_ite e (fun e => ?_) (fun e => ?_)
  · refine seg_Bg (pc' := 239) (lv' := [(0, .retAddr 0), (1, .ref 0), (2, .ref 37), (3, .int v3), (4, .int v4), (5, .int v5), (6, .int v6), (7, .int v7)]) (st' := [.int ((5 : Int32) + v7), .retAddr 0]) (lay' := LAY h.1) (h' := h.2) 4 rfl ?_
    refine call_Bg (a := 127) (la := [(0, .retAddr 0), (1, .int ((5 : Int32) + v7))]) (np := 242) (lv' := [(0, .retAddr 0), (1, .ref 0), (2, .ref 37), (3, .int v3), (4, .int v4), (5, .int v5), (6, .int v6), (7, .int v7)]) (rest := []) (res := fun r => ([.int r], LAY h.1, h.2)) rfl e (fun r e => BJw_cell L xs ((5 : Int32) + v7) (LAY h.1) h.2 r e) (fun c20 e => ?_)
    show Bg L xs 136 242 [(0, .retAddr 0), (1, .ref 0), (2, .ref 37), (3, .int v3), (4, .int v4), (5, .int v5), (6, .int v6), (7, .int v7)] [.int c20] (LAY h.1) h.2 R
    refine seg_Bg (pc' := 243) (lv' := [(0, .retAddr 0), (1, .ref 0), (2, .ref 37), (3, .int v3), (4, .int v4), (5, .int v5), (6, .int v6), (7, .int v7)]) (st' := [.int v3, .int c20]) (lay' := LAY h.1) (h' := h.2) 1 rfl ?_
    refine call_Bg (a := 128) (la := [(0, .int c20), (1, .int v3)]) (np := 246) (lv' := [(0, .retAddr 0), (1, .ref 0), (2, .ref 37), (3, .int v3), (4, .int v4), (5, .int v5), (6, .int v6), (7, .int v7)]) (rest := []) (res := fun r => ([.int r], LAY h.1, h.2)) rfl e (fun r e => BJw_low L xs c20 v3 (LAY h.1) h.2 r e) (fun c21 e => ?_)
    show Bg L xs 136 246 [(0, .retAddr 0), (1, .ref 0), (2, .ref 37), (3, .int v3), (4, .int v4), (5, .int v5), (6, .int v6), (7, .int v7)] [.int c21] (LAY h.1) h.2 R
    refine seg_Bg (pc' := (if ((v4 >>> (c21 &&& 31) : Int32) &&& (1 : Int32)) = 1 then 259 else 281)) (lv' := [(0, .retAddr 0), (1, .ref 0), (2, .ref 37), (3, .int v3), (4, .int v4), (5, .int v5), (6, .int v6), (7, .int v7), (8, .int c21)]) (st' := []) (lay' := LAY h.1) (h' := h.2) 8 rfl ?_
    refine pc_ite e (fun e => ?_) (fun e => ?_)
    · refine seg_Bg (pc' := 267) (lv' := [(0, .retAddr 0), (1, .ref 0), (2, .ref 37), (3, .int v3), (4, .int v4), (5, .int v5), (6, .int v6), (7, .int v7), (8, .int c21)]) (st' := [.int ((5 : Int32) + v7), .retAddr 0, .int c21, .ref 0]) (lay' := LAY h.1) (h' := h.2) 6 rfl ?_
      refine call_Bg (a := 127) (la := [(0, .retAddr 0), (1, .int ((5 : Int32) + v7))]) (np := 270) (lv' := [(0, .retAddr 0), (1, .ref 0), (2, .ref 37), (3, .int v3), (4, .int v4), (5, .int v5), (6, .int v6), (7, .int v7), (8, .int c21)]) (rest := [.int c21, .ref 0]) (res := fun r => ([.int r], LAY h.1, h.2)) rfl e (fun r e => BJw_cell L xs ((5 : Int32) + v7) (LAY h.1) h.2 r e) (fun c22 e => ?_)
      show Bg L xs 136 270 [(0, .retAddr 0), (1, .ref 0), (2, .ref 37), (3, .int v3), (4, .int v4), (5, .int v5), (6, .int v6), (7, .int v7), (8, .int c21)] [.int c22, .int c21, .ref 0] (LAY h.1) h.2 R
      refine seg_Bg (pc' := 273) (lv' := [(0, .retAddr 0), (1, .ref 0), (2, .ref 37), (3, .int v3), (4, .int v4), (5, .int v5), (6, .int v6), (7, .int v7), (8, .int c21)]) (st' := [.int (c22 * (31 : Int32)), .int c21, .ref 0]) (lay' := LAY h.1) (h' := h.2) 2 rfl ?_
      refine call_Bg (a := 135) (la := [(0, .ref 0), (1, .int c21), (2, .int (c22 * (31 : Int32)))]) (np := 276) (lv' := [(0, .retAddr 0), (1, .ref 0), (2, .ref 37), (3, .int v3), (4, .int v4), (5, .int v5), (6, .int v6), (7, .int v7), (8, .int c21)]) (rest := []) (res := fun r => ([.int r.1], LAY r.2.1, r.2.2)) rfl e (fun r e => BJw_isCheap L xs c21 (c22 * (31 : Int32)) h r e) (fun c23 e => ?_)
      show Bg L xs 136 276 [(0, .retAddr 0), (1, .ref 0), (2, .ref 37), (3, .int v3), (4, .int v4), (5, .int v5), (6, .int v6), (7, .int v7), (8, .int c21)] [.int c23.1] (LAY c23.2.1) c23.2.2 R
      refine seg_Bg (pc' := (if c23.1 = 0 then 279 else 281)) (lv' := [(0, .retAddr 0), (1, .ref 0), (2, .ref 37), (3, .int v3), (4, .int v4), (5, .int v5), (6, .int v6), (7, .int v7), (8, .int c21)]) (st' := []) (lay' := LAY c23.2.1) (h' := c23.2.2) 1 rfl ?_
      refine pc_ite e (fun e => ?_) (fun e => ?_)
      · refine seg_Bg (pc' := 280) (lv' := [(0, .retAddr 0), (1, .ref 0), (2, .ref 37), (3, .int v3), (4, .int v4), (5, .int v5), (6, .int v6), (7, .int v7), (8, .int c21)]) (st' := [.int 0]) (lay' := LAY c23.2.1) (h' := c23.2.2) 1 rfl ?_
        rw [hR (0, c23.2) (Option.some.inj e).symm]; exact ret_Bg rfl
      · refine seg_Bg (pc' := 227) (lv' := [(0, .retAddr 0), (1, .ref 0), (2, .ref 37), (3, .int v3), (4, .int v4), (5, .int v5), (6, .int v6), (7, .int (v7 + 1)), (8, .int c21)]) (st' := []) (lay' := LAY c23.2.1) (h' := c23.2.2) 2 rfl ?_
        refine kp_Bg (lv' := [(0, .retAddr 0), (1, .ref 0), (2, .ref 37), (3, .int v3), (4, .int v4), (5, .int v5), (6, .int v6), (7, .int (v7 + 1))]) rfl rfl ?_
        exact hH (v7 + 1, c23.2) (Option.some.inj e).symm
    · refine seg_Bg (pc' := 227) (lv' := [(0, .retAddr 0), (1, .ref 0), (2, .ref 37), (3, .int v3), (4, .int v4), (5, .int v5), (6, .int v6), (7, .int (v7 + 1)), (8, .int c21)]) (st' := []) (lay' := LAY h.1) (h' := h.2) 2 rfl ?_
      refine kp_Bg (lv' := [(0, .retAddr 0), (1, .ref 0), (2, .ref 37), (3, .int v3), (4, .int v4), (5, .int v5), (6, .int v6), (7, .int (v7 + 1))]) rfl rfl ?_
      exact hH (v7 + 1, h) (Option.some.inj e).symm
  · exact hE (v7, h) (Option.some.inj e).symm
theorem BJw_law_L227 (L : Nat) (xs : Nat → Int32) (v3 v4 v5 v6 : Int32) (R : List Value × Lay × Hp) (C : ((Int32 × Wd) ⊕ (Int32 × Wd)) → Prop) (hE : ∀ t : Int32 × Wd, C (.inl t) → Bg L xs 136 287 [(0, .retAddr 0), (1, .ref 0), (2, .ref 37), (3, .int v3), (4, .int v4), (5, .int v5), (6, .int v6), (7, .int t.1)] [] (LAY t.2.1) t.2.2 R) (hR : ∀ r : Int32 × Wd, C (.inr r) → R = ([.int r.1], LAY r.2.1, r.2.2)) (n : Nat) (s : Int32 × Wd) (o : ((Int32 × Wd) ⊕ (Int32 × Wd))) (e : loopN n (fun s => Jw_law_L227 L xs v3 v4 v5 v6 s.1 s.2) s = some o) (hC : C o) : Bg L xs 136 227 [(0, .retAddr 0), (1, .ref 0), (2, .ref 37), (3, .int v3), (4, .int v4), (5, .int v5), (6, .int v6), (7, .int s.1)] [] (LAY s.2.1) s.2.2 R := by
  refine loop_B (fun s => Jw_law_L227 L xs v3 v4 v5 v6 s.1 s.2) (fun s : Int32 × Wd => Bg L xs 136 227 [(0, .retAddr 0), (1, .ref 0), (2, .ref 37), (3, .int v3), (4, .int v4), (5, .int v5), (6, .int v6), (7, .int s.1)] [] (LAY s.2.1) s.2.2 R) C (fun s o e => ?_) n s o e hC
  intro hK
  refine BJw_law_L227_s L xs v3 v4 v5 v6 R s.1 s.2 o (fun s q => by subst q; exact hK) (fun t q => by subst q; exact hE t hK) (fun r q => by subst q; exact hR r hK) e
set_option maxRecDepth 100000 in
theorem BJw_law_J333 (L : Nat) (xs : Nat → Int32) (v3 v4 v5 v6 v7 v8 s0 : Int32) (h : Wd) (o : (Int32 × Wd)) (e : Jw_law_J333 L xs v3 v4 v5 v6 v7 v8 s0 h = some o) (R : List Value × Lay × Hp) (hR : R = ([.int o.1], LAY o.2.1, o.2.2)) : Bg L xs 136 333 [(0, .retAddr 0), (1, .ref 0), (2, .ref 37), (3, .int v3), (4, .int v4), (5, .int v5), (6, .int v6), (7, .int v7), (8, .int v8)] [.int s0] (LAY h.1) h.2 R := by
  refine seg_Bg (pc' := (if v8 = s0 then 342 else 419)) (lv' := [(0, .retAddr 0), (1, .ref 0), (2, .ref 37), (3, .int v3), (4, .int v4), (5, .int v5), (6, .int v6), (7, .int v7), (8, .int v8), (9, .int s0)]) (st' := []) (lay' := LAY h.1) (h' := h.2) 4 rfl ?_
  refine pc_ite e (fun e => ?_) (fun e => ?_)
  · refine seg_Bg (pc' := 344) (lv' := [(0, .retAddr 0), (1, .ref 0), (2, .ref 37), (3, .int v3), (4, .int v4), (5, .int v5), (6, .int v6), (7, .int v7), (8, .int v8), (9, .int s0)]) (st' := [.int 0, .ref 0]) (lay' := LAY h.1) (h' := h.2) 2 rfl ?_
    refine call_Bg (a := 119) (la := [(0, .ref 0), (1, .int 0)]) (np := 347) (lv' := [(0, .retAddr 0), (1, .ref 0), (2, .ref 37), (3, .int v3), (4, .int v4), (5, .int v5), (6, .int v6), (7, .int v7), (8, .int v8), (9, .int s0)]) (rest := []) (res := fun r => ([.int r.1], LAY r.2.1, r.2.2)) rfl e (fun r e => BOo_turn L xs 0 h r e) (fun c28 e => ?_)
    show Bg L xs 136 347 [(0, .retAddr 0), (1, .ref 0), (2, .ref 37), (3, .int v3), (4, .int v4), (5, .int v5), (6, .int v6), (7, .int v7), (8, .int v8), (9, .int s0)] [.int c28.1] (LAY c28.2.1) c28.2.2 R
    refine seg_Bg (pc' := 349) (lv' := [(0, .retAddr 0), (1, .ref 0), (2, .ref 37), (3, .int v3), (4, .int v4), (5, .int v5), (6, .int v6), (7, .int v7), (8, .int v8), (9, .int s0)]) (st' := [.int 0, .ref 37, .int c28.1]) (lay' := LAY c28.2.1) (h' := c28.2.2) 2 rfl ?_
    refine call_Bg (a := 119) (la := [(0, .ref 37), (1, .int 0)]) (np := 352) (lv' := [(0, .retAddr 0), (1, .ref 0), (2, .ref 37), (3, .int v3), (4, .int v4), (5, .int v5), (6, .int v6), (7, .int v7), (8, .int v8), (9, .int s0)]) (rest := [.int c28.1]) (res := fun r => ([.int r.1], LAY r.2.1, r.2.2)) rfl e (fun r e => BOq_turn L xs 0 c28.2 r e) (fun c29 e => ?_)
    show Bg L xs 136 352 [(0, .retAddr 0), (1, .ref 0), (2, .ref 37), (3, .int v3), (4, .int v4), (5, .int v5), (6, .int v6), (7, .int v7), (8, .int v8), (9, .int s0)] [.int c29.1, .int c28.1] (LAY c29.2.1) c29.2.2 R
    refine seg_Bg (pc' := (if c28.1 = c29.1 then 355 else 419)) (lv' := [(0, .retAddr 0), (1, .ref 0), (2, .ref 37), (3, .int v3), (4, .int v4), (5, .int v5), (6, .int v6), (7, .int v7), (8, .int v8), (9, .int s0)]) (st' := []) (lay' := LAY c29.2.1) (h' := c29.2.2) 1 rfl ?_
    refine pc_ite e (fun e => ?_) (fun e => ?_)
    · refine seg_Bg (pc' := 357) (lv' := [(0, .retAddr 0), (1, .ref 0), (2, .ref 37), (3, .int v3), (4, .int v4), (5, .int v5), (6, .int v6), (7, .int v7), (8, .int v8), (9, .int s0)]) (st' := [.int 2, .ref 0]) (lay' := LAY c29.2.1) (h' := c29.2.2) 2 rfl ?_
      refine call_Bg (a := 121) (la := [(0, .ref 0), (1, .int 2)]) (np := 360) (lv' := [(0, .retAddr 0), (1, .ref 0), (2, .ref 37), (3, .int v3), (4, .int v4), (5, .int v5), (6, .int v6), (7, .int v7), (8, .int v8), (9, .int s0)]) (rest := []) (res := fun r => ([.int r.1], LAY r.2.1, r.2.2)) rfl e (fun r e => BOo_undo L xs 2 c29.2 r e) (fun c30 e => ?_)
      show Bg L xs 136 360 [(0, .retAddr 0), (1, .ref 0), (2, .ref 37), (3, .int v3), (4, .int v4), (5, .int v5), (6, .int v6), (7, .int v7), (8, .int v8), (9, .int s0)] [.int c30.1] (LAY c30.2.1) c30.2.2 R
      refine seg_Bg (pc' := 362) (lv' := [(0, .retAddr 0), (1, .ref 0), (2, .ref 37), (3, .int v3), (4, .int v4), (5, .int v5), (6, .int v6), (7, .int v7), (8, .int v8), (9, .int s0)]) (st' := [.int 2, .ref 37, .int c30.1]) (lay' := LAY c30.2.1) (h' := c30.2.2) 2 rfl ?_
      refine call_Bg (a := 121) (la := [(0, .ref 37), (1, .int 2)]) (np := 365) (lv' := [(0, .retAddr 0), (1, .ref 0), (2, .ref 37), (3, .int v3), (4, .int v4), (5, .int v5), (6, .int v6), (7, .int v7), (8, .int v8), (9, .int s0)]) (rest := [.int c30.1]) (res := fun r => ([.int r.1], LAY r.2.1, r.2.2)) rfl e (fun r e => BOq_undo L xs 2 c30.2 r e) (fun c31 e => ?_)
      show Bg L xs 136 365 [(0, .retAddr 0), (1, .ref 0), (2, .ref 37), (3, .int v3), (4, .int v4), (5, .int v5), (6, .int v6), (7, .int v7), (8, .int v8), (9, .int s0)] [.int c31.1, .int c30.1] (LAY c31.2.1) c31.2.2 R
      refine seg_Bg (pc' := (if c30.1 = c31.1 then 368 else 419)) (lv' := [(0, .retAddr 0), (1, .ref 0), (2, .ref 37), (3, .int v3), (4, .int v4), (5, .int v5), (6, .int v6), (7, .int v7), (8, .int v8), (9, .int s0)]) (st' := []) (lay' := LAY c31.2.1) (h' := c31.2.2) 1 rfl ?_
      refine pc_ite e (fun e => ?_) (fun e => ?_)
      · refine seg_Bg (pc' := 371) (lv' := [(0, .retAddr 0), (1, .ref 0), (2, .ref 37), (3, .int v3), (4, .int v4), (5, .int v5), (6, .int v6), (7, .int v7), (8, .int v8), (9, .int s0)]) (st' := [.int 12, .ref 0]) (lay' := LAY c31.2.1) (h' := c31.2.2) 2 rfl ?_
        refine call_Bg (a := 114) (la := [(0, .ref 0), (1, .int 12)]) (np := 374) (lv' := [(0, .retAddr 0), (1, .ref 0), (2, .ref 37), (3, .int v3), (4, .int v4), (5, .int v5), (6, .int v6), (7, .int v7), (8, .int v8), (9, .int s0)]) (rest := []) (res := fun r => ([.int r.1], LAY r.2.1, r.2.2)) rfl e (fun r e => BOo_told L xs 12 c31.2 r e) (fun c32 e => ?_)
        show Bg L xs 136 374 [(0, .retAddr 0), (1, .ref 0), (2, .ref 37), (3, .int v3), (4, .int v4), (5, .int v5), (6, .int v6), (7, .int v7), (8, .int v8), (9, .int s0)] [.int c32.1] (LAY c32.2.1) c32.2.2 R
        refine seg_Bg (pc' := 377) (lv' := [(0, .retAddr 0), (1, .ref 0), (2, .ref 37), (3, .int v3), (4, .int v4), (5, .int v5), (6, .int v6), (7, .int v7), (8, .int v8), (9, .int s0)]) (st' := [.int 12, .ref 37, .int c32.1]) (lay' := LAY c32.2.1) (h' := c32.2.2) 2 rfl ?_
        refine call_Bg (a := 114) (la := [(0, .ref 37), (1, .int 12)]) (np := 380) (lv' := [(0, .retAddr 0), (1, .ref 0), (2, .ref 37), (3, .int v3), (4, .int v4), (5, .int v5), (6, .int v6), (7, .int v7), (8, .int v8), (9, .int s0)]) (rest := [.int c32.1]) (res := fun r => ([.int r.1], LAY r.2.1, r.2.2)) rfl e (fun r e => BOq_told L xs 12 c32.2 r e) (fun c33 e => ?_)
        show Bg L xs 136 380 [(0, .retAddr 0), (1, .ref 0), (2, .ref 37), (3, .int v3), (4, .int v4), (5, .int v5), (6, .int v6), (7, .int v7), (8, .int v8), (9, .int s0)] [.int c33.1, .int c32.1] (LAY c33.2.1) c33.2.2 R
        refine seg_Bg (pc' := (if c32.1 = c33.1 then 383 else 419)) (lv' := [(0, .retAddr 0), (1, .ref 0), (2, .ref 37), (3, .int v3), (4, .int v4), (5, .int v5), (6, .int v6), (7, .int v7), (8, .int v8), (9, .int s0)]) (st' := []) (lay' := LAY c33.2.1) (h' := c33.2.2) 1 rfl ?_
        refine pc_ite e (fun e => ?_) (fun e => ?_)
        · refine seg_Bg (pc' := 387) (lv' := [(0, .retAddr 0), (1, .ref 0), (2, .ref 37), (3, .int v3), (4, .int v4), (5, .int v5), (6, .int v6), (7, .int v7), (8, .int v8), (9, .int s0)]) (st' := [.int 0, .int v7, .ref 0]) (lay' := LAY c33.2.1) (h' := c33.2.2) 3 rfl ?_
          refine call_Bg (a := 116) (la := [(0, .ref 0), (1, .int v7), (2, .int 0)]) (np := 390) (lv' := [(0, .retAddr 0), (1, .ref 0), (2, .ref 37), (3, .int v3), (4, .int v4), (5, .int v5), (6, .int v6), (7, .int v7), (8, .int v8), (9, .int s0)]) (rest := []) (res := fun r => ([.int r.1], LAY r.2.1, r.2.2)) rfl e (fun r e => BOo_cost L xs v7 0 c33.2 r e) (fun c34 e => ?_)
          show Bg L xs 136 390 [(0, .retAddr 0), (1, .ref 0), (2, .ref 37), (3, .int v3), (4, .int v4), (5, .int v5), (6, .int v6), (7, .int v7), (8, .int v8), (9, .int s0)] [.int c34.1] (LAY c34.2.1) c34.2.2 R
          refine seg_Bg (pc' := (if c34.1 = v6 then 395 else 419)) (lv' := [(0, .retAddr 0), (1, .ref 0), (2, .ref 37), (3, .int v3), (4, .int v4), (5, .int v5), (6, .int v6), (7, .int v7), (8, .int v8), (9, .int s0)]) (st' := []) (lay' := LAY c34.2.1) (h' := c34.2.2) 2 rfl ?_
          refine pc_ite e (fun e => ?_) (fun e => ?_)
          · refine seg_Bg (pc' := 397) (lv' := [(0, .retAddr 0), (1, .ref 0), (2, .ref 37), (3, .int v3), (4, .int v4), (5, .int v5), (6, .int v6), (7, .int v7), (8, .int v8), (9, .int s0)]) (st' := [.int 2, .ref 0]) (lay' := LAY c34.2.1) (h' := c34.2.2) 2 rfl ?_
            refine call_Bg (a := 114) (la := [(0, .ref 0), (1, .int 2)]) (np := 400) (lv' := [(0, .retAddr 0), (1, .ref 0), (2, .ref 37), (3, .int v3), (4, .int v4), (5, .int v5), (6, .int v6), (7, .int v7), (8, .int v8), (9, .int s0)]) (rest := []) (res := fun r => ([.int r.1], LAY r.2.1, r.2.2)) rfl e (fun r e => BOo_told L xs 2 c34.2 r e) (fun c35 e => ?_)
            show Bg L xs 136 400 [(0, .retAddr 0), (1, .ref 0), (2, .ref 37), (3, .int v3), (4, .int v4), (5, .int v5), (6, .int v6), (7, .int v7), (8, .int v8), (9, .int s0)] [.int c35.1] (LAY c35.2.1) c35.2.2 R
            refine seg_Bg (pc' := (if c35.1 = v4 then 405 else 419)) (lv' := [(0, .retAddr 0), (1, .ref 0), (2, .ref 37), (3, .int v3), (4, .int v4), (5, .int v5), (6, .int v6), (7, .int v7), (8, .int v8), (9, .int s0)]) (st' := []) (lay' := LAY c35.2.1) (h' := c35.2.2) 2 rfl ?_
            refine pc_ite e (fun e => ?_) (fun e => ?_)
            · refine seg_Bg (pc' := 407) (lv' := [(0, .retAddr 0), (1, .ref 0), (2, .ref 37), (3, .int v3), (4, .int v4), (5, .int v5), (6, .int v6), (7, .int v7), (8, .int v8), (9, .int s0)]) (st' := [.int 2, .ref 37]) (lay' := LAY c35.2.1) (h' := c35.2.2) 2 rfl ?_
              refine call_Bg (a := 114) (la := [(0, .ref 37), (1, .int 2)]) (np := 410) (lv' := [(0, .retAddr 0), (1, .ref 0), (2, .ref 37), (3, .int v3), (4, .int v4), (5, .int v5), (6, .int v6), (7, .int v7), (8, .int v8), (9, .int s0)]) (rest := []) (res := fun r => ([.int r.1], LAY r.2.1, r.2.2)) rfl e (fun r e => BOq_told L xs 2 c35.2 r e) (fun c36 e => ?_)
              show Bg L xs 136 410 [(0, .retAddr 0), (1, .ref 0), (2, .ref 37), (3, .int v3), (4, .int v4), (5, .int v5), (6, .int v6), (7, .int v7), (8, .int v8), (9, .int s0)] [.int c36.1] (LAY c36.2.1) c36.2.2 R
              refine seg_Bg (pc' := (if c36.1 = v4 then 415 else 419)) (lv' := [(0, .retAddr 0), (1, .ref 0), (2, .ref 37), (3, .int v3), (4, .int v4), (5, .int v5), (6, .int v6), (7, .int v7), (8, .int v8), (9, .int s0)]) (st' := []) (lay' := LAY c36.2.1) (h' := c36.2.2) 2 rfl ?_
              refine pc_ite e (fun e => ?_) (fun e => ?_)
              · refine seg_Bg (pc' := 420) (lv' := [(0, .retAddr 0), (1, .ref 0), (2, .ref 37), (3, .int v3), (4, .int v4), (5, .int v5), (6, .int v6), (7, .int v7), (8, .int v8), (9, .int s0)]) (st' := [.int 1]) (lay' := LAY c36.2.1) (h' := c36.2.2) 2 rfl ?_
                rw [hR, ← Option.some.inj e]; exact ret_Bg rfl
              · refine seg_Bg (pc' := 420) (lv' := [(0, .retAddr 0), (1, .ref 0), (2, .ref 37), (3, .int v3), (4, .int v4), (5, .int v5), (6, .int v6), (7, .int v7), (8, .int v8), (9, .int s0)]) (st' := [.int 0]) (lay' := LAY c36.2.1) (h' := c36.2.2) 1 rfl ?_
                rw [hR, ← Option.some.inj e]; exact ret_Bg rfl
            · refine seg_Bg (pc' := 420) (lv' := [(0, .retAddr 0), (1, .ref 0), (2, .ref 37), (3, .int v3), (4, .int v4), (5, .int v5), (6, .int v6), (7, .int v7), (8, .int v8), (9, .int s0)]) (st' := [.int 0]) (lay' := LAY c35.2.1) (h' := c35.2.2) 1 rfl ?_
              rw [hR, ← Option.some.inj e]; exact ret_Bg rfl
          · refine seg_Bg (pc' := 420) (lv' := [(0, .retAddr 0), (1, .ref 0), (2, .ref 37), (3, .int v3), (4, .int v4), (5, .int v5), (6, .int v6), (7, .int v7), (8, .int v8), (9, .int s0)]) (st' := [.int 0]) (lay' := LAY c34.2.1) (h' := c34.2.2) 1 rfl ?_
            rw [hR, ← Option.some.inj e]; exact ret_Bg rfl
        · refine seg_Bg (pc' := 420) (lv' := [(0, .retAddr 0), (1, .ref 0), (2, .ref 37), (3, .int v3), (4, .int v4), (5, .int v5), (6, .int v6), (7, .int v7), (8, .int v8), (9, .int s0)]) (st' := [.int 0]) (lay' := LAY c33.2.1) (h' := c33.2.2) 1 rfl ?_
          rw [hR, ← Option.some.inj e]; exact ret_Bg rfl
      · refine seg_Bg (pc' := 420) (lv' := [(0, .retAddr 0), (1, .ref 0), (2, .ref 37), (3, .int v3), (4, .int v4), (5, .int v5), (6, .int v6), (7, .int v7), (8, .int v8), (9, .int s0)]) (st' := [.int 0]) (lay' := LAY c31.2.1) (h' := c31.2.2) 1 rfl ?_
        rw [hR, ← Option.some.inj e]; exact ret_Bg rfl
    · refine seg_Bg (pc' := 420) (lv' := [(0, .retAddr 0), (1, .ref 0), (2, .ref 37), (3, .int v3), (4, .int v4), (5, .int v5), (6, .int v6), (7, .int v7), (8, .int v8), (9, .int s0)]) (st' := [.int 0]) (lay' := LAY c29.2.1) (h' := c29.2.2) 1 rfl ?_
      rw [hR, ← Option.some.inj e]; exact ret_Bg rfl
  · refine seg_Bg (pc' := 420) (lv' := [(0, .retAddr 0), (1, .ref 0), (2, .ref 37), (3, .int v3), (4, .int v4), (5, .int v5), (6, .int v6), (7, .int v7), (8, .int v8), (9, .int s0)]) (st' := [.int 0]) (lay' := LAY h.1) (h' := h.2) 1 rfl ?_
    rw [hR, ← Option.some.inj e]; exact ret_Bg rfl
set_option maxRecDepth 100000 in
theorem BJw_law_J313 (L : Nat) (xs : Nat → Int32) (v3 v4 v5 v6 v7 s0 : Int32) (h : Wd) (o : (Int32 × Wd)) (e : Jw_law_J313 L xs v3 v4 v5 v6 v7 s0 h = some o) (R : List Value × Lay × Hp) (hR : R = ([.int o.1], LAY o.2.1, o.2.2)) : Bg L xs 136 313 [(0, .retAddr 0), (1, .ref 0), (2, .ref 37), (3, .int v3), (4, .int v4), (5, .int v5), (6, .int v6), (7, .int v7)] [.int s0] (LAY h.1) h.2 R := by
  refine seg_Bg (pc' := (if v3 < 6 then 321 else 332)) (lv' := [(0, .retAddr 0), (1, .ref 0), (2, .ref 37), (3, .int v3), (4, .int v4), (5, .int v5), (6, .int v6), (7, .int v7), (8, .int s0)]) (st' := []) (lay' := LAY h.1) (h' := h.2) 4 rfl ?_
  refine pc_ite e (fun e => ?_) (fun e => ?_)
  · refine seg_Bg (pc' := 326) (lv' := [(0, .retAddr 0), (1, .ref 0), (2, .ref 37), (3, .int v3), (4, .int v4), (5, .int v5), (6, .int v6), (7, .int v7), (8, .int s0)]) (st' := [.int 0, .int 0, .int 0, .int 0, .ref 37]) (lay' := LAY h.1) (h' := h.2) 5 rfl ?_
    refine call_Bg (a := 118) (la := [(0, .ref 37), (1, .int 0), (2, .int 0), (3, .int 0), (4, .int 0)]) (np := 329) (lv' := [(0, .retAddr 0), (1, .ref 0), (2, .ref 37), (3, .int v3), (4, .int v4), (5, .int v5), (6, .int v6), (7, .int v7), (8, .int s0)]) (rest := []) (res := fun r => ([.int r.1], LAY r.2.1, r.2.2)) rfl e (fun r e => BOq_put L xs 0 0 0 0 h r e) (fun c27 e => ?_)
    show Bg L xs 136 329 [(0, .retAddr 0), (1, .ref 0), (2, .ref 37), (3, .int v3), (4, .int v4), (5, .int v5), (6, .int v6), (7, .int v7), (8, .int s0)] [.int c27.1] (LAY c27.2.1) c27.2.2 R
    refine seg_Bg (pc' := 333) (lv' := [(0, .retAddr 0), (1, .ref 0), (2, .ref 37), (3, .int v3), (4, .int v4), (5, .int v5), (6, .int v6), (7, .int v7), (8, .int s0)]) (st' := [.int c27.1]) (lay' := LAY c27.2.1) (h' := c27.2.2) 1 rfl ?_
    exact BJw_law_J333 L xs v3 v4 v5 v6 v7 s0 c27.1 c27.2 o e R hR
  · refine seg_Bg (pc' := 333) (lv' := [(0, .retAddr 0), (1, .ref 0), (2, .ref 37), (3, .int v3), (4, .int v4), (5, .int v5), (6, .int v6), (7, .int v7), (8, .int s0)]) (st' := [.int 0]) (lay' := LAY h.1) (h' := h.2) 1 rfl ?_
    exact BJw_law_J333 L xs v3 v4 v5 v6 v7 s0 0 h o e R hR
set_option maxRecDepth 100000 in
theorem BJw_law (L : Nat) (xs : Nat → Int32) (h : Wd) (o : Int32 × Wd) (e : Jw_law L xs h = some o) : Bg L xs 136 16 [(0, .retAddr 0), (1, .ref 0), (2, .ref 37)] [] (LAY h.1) h.2 ([.int o.1], LAY o.2.1, o.2.2) := by
  obtain ⟨R, hR⟩ : ∃ R : List Value × Lay × Hp, R = ([.int o.1], LAY o.2.1, o.2.2) := ⟨_, rfl⟩
  rw [← hR]
  refine seg_Bg (pc' := 19) (lv' := [(0, .retAddr 0), (1, .ref 0), (2, .ref 37)]) (st' := [.int 0, .retAddr 0, .int 1]) (lay' := LAY h.1) (h' := h.2) 3 rfl ?_
  refine call_Bg (a := 127) (la := [(0, .retAddr 0), (1, .int 0)]) (np := 22) (lv' := [(0, .retAddr 0), (1, .ref 0), (2, .ref 37)]) (rest := [.int 1]) (res := fun r => ([.int r], LAY h.1, h.2)) rfl e (fun r e => BJw_cell L xs 0 (LAY h.1) h.2 r e) (fun c1 e => ?_)
  show Bg L xs 136 22 [(0, .retAddr 0), (1, .ref 0), (2, .ref 37)] [.int c1, .int 1] (LAY h.1) h.2 R
  refine seg_Bg (pc' := 23) (lv' := [(0, .retAddr 0), (1, .ref 0), (2, .ref 37)]) (st' := [.int 2, .int c1, .int 1]) (lay' := LAY h.1) (h' := h.2) 1 rfl ?_
  refine call_Bg (a := 128) (la := [(0, .int c1), (1, .int 2)]) (np := 26) (lv' := [(0, .retAddr 0), (1, .ref 0), (2, .ref 37)]) (rest := [.int 1]) (res := fun r => ([.int r], LAY h.1, h.2)) rfl e (fun r e => BJw_low L xs c1 2 (LAY h.1) h.2 r e) (fun c2 e => ?_)
  show Bg L xs 136 26 [(0, .retAddr 0), (1, .ref 0), (2, .ref 37)] [.int c2, .int 1] (LAY h.1) h.2 R
  refine seg_Bg (pc' := 31) (lv' := [(0, .retAddr 0), (1, .ref 0), (2, .ref 37), (3, .int ((1 : Int32) + c2)), (4, .int 0)]) (st' := []) (lay' := LAY h.1) (h' := h.2) 4 rfl ?_
  obtain ⟨t7o, et7o, e⟩ := bd_s e
  refine BJw_law_L31 L xs ((1 : Int32) + c2) R (fun (t7x : (Int32 × Wd) ⊕ (Int32 × Wd)) => (sm t7x (fun t7 => bd (Jw_cell L xs 4) fun c8 => bd (Jw_low c8 ((1 : Int32) <<< (((1 : Int32) + c2) &&& 31) : Int32)) fun c9 => bd (Oo_base c9 t7.2) fun c10 => bd (Oq_base c9 c10.2) fun c11 => if c10.1 = c11.1 then bd (loopN 1000000 (fun s => Jw_law_L119 L xs ((1 : Int32) + c2) c9 s.1 s.2.1 s.2.2.1 s.2.2.2) (0, 0, 0, c11.2)) fun (t15x : (Int32 × Int32 × Int32 × Wd) ⊕ (Int32 × Wd)) => sm t15x (fun t15 => bd (Oo_told 5 t15.2.2.2) fun c16 => if c16.1 = t15.1 then bd (Oo_told 6 c16.2) fun c17 => if c17.1 = t15.2.1 then bd (Oo_told 7 c17.2) fun c18 => bd (Oo_cost c18.1 0 c18.2) fun c19 => if c19.1 = t15.2.1 then bd (loopN 1000000 (fun s => Jw_law_L227 L xs ((1 : Int32) + c2) c9 t15.1 t15.2.1 s.1 s.2) (0, c19.2)) fun (t24x : (Int32 × Wd) ⊕ (Int32 × Wd)) => sm t24x (fun t24 => bd (Oo_told 7 t24.2) fun c25 => if ((1 : Int32) + c2) < 6 then bd (Oo_put 0 0 0 0 c25.2) fun c26 => Jw_law_J313 L xs ((1 : Int32) + c2) c9 t15.1 t15.2.1 c25.1 c26.1 c26.2 else Jw_law_J313 L xs ((1 : Int32) + c2) c9 t15.1 t15.2.1 c25.1 0 c25.2) (fun r36 => some r36) else some (0, c19.2) else some (0, c17.2) else some (0, c16.2)) (fun r36 => some r36) else some (0, c11.2)) (fun r36 => some r36)) = some o) (fun t7 e => ?_) (fun r36 e => ?_) 1000000 (0, h) _ et7o e
  · refine seg_Bg (pc' := 82) (lv' := [(0, .retAddr 0), (1, .ref 0), (2, .ref 37), (3, .int ((1 : Int32) + c2)), (4, .int t7.1)]) (st' := [.int 4, .retAddr 0]) (lay' := LAY t7.2.1) (h' := t7.2.2) 2 rfl ?_
    refine call_Bg (a := 127) (la := [(0, .retAddr 0), (1, .int 4)]) (np := 85) (lv' := [(0, .retAddr 0), (1, .ref 0), (2, .ref 37), (3, .int ((1 : Int32) + c2)), (4, .int t7.1)]) (rest := []) (res := fun r => ([.int r], LAY t7.2.1, t7.2.2)) rfl e (fun r e => BJw_cell L xs 4 (LAY t7.2.1) t7.2.2 r e) (fun c8 e => ?_)
    show Bg L xs 136 85 [(0, .retAddr 0), (1, .ref 0), (2, .ref 37), (3, .int ((1 : Int32) + c2)), (4, .int t7.1)] [.int c8] (LAY t7.2.1) t7.2.2 R
    refine seg_Bg (pc' := 88) (lv' := [(0, .retAddr 0), (1, .ref 0), (2, .ref 37), (3, .int ((1 : Int32) + c2)), (4, .int t7.1)]) (st' := [.int ((1 : Int32) <<< (((1 : Int32) + c2) &&& 31) : Int32), .int c8]) (lay' := LAY t7.2.1) (h' := t7.2.2) 3 rfl ?_
    refine call_Bg (a := 128) (la := [(0, .int c8), (1, .int ((1 : Int32) <<< (((1 : Int32) + c2) &&& 31) : Int32))]) (np := 91) (lv' := [(0, .retAddr 0), (1, .ref 0), (2, .ref 37), (3, .int ((1 : Int32) + c2)), (4, .int t7.1)]) (rest := []) (res := fun r => ([.int r], LAY t7.2.1, t7.2.2)) rfl e (fun r e => BJw_low L xs c8 ((1 : Int32) <<< (((1 : Int32) + c2) &&& 31) : Int32) (LAY t7.2.1) t7.2.2 r e) (fun c9 e => ?_)
    show Bg L xs 136 91 [(0, .retAddr 0), (1, .ref 0), (2, .ref 37), (3, .int ((1 : Int32) + c2)), (4, .int t7.1)] [.int c9] (LAY t7.2.1) t7.2.2 R
    refine seg_Bg (pc' := 96) (lv' := [(0, .retAddr 0), (1, .ref 0), (2, .ref 37), (3, .int ((1 : Int32) + c2)), (4, .int c9)]) (st' := [.int c9, .ref 0]) (lay' := LAY t7.2.1) (h' := t7.2.2) 3 rfl ?_
    refine call_Bg (a := 120) (la := [(0, .ref 0), (1, .int c9)]) (np := 99) (lv' := [(0, .retAddr 0), (1, .ref 0), (2, .ref 37), (3, .int ((1 : Int32) + c2)), (4, .int c9)]) (rest := []) (res := fun r => ([.int r.1], LAY r.2.1, r.2.2)) rfl e (fun r e => BOo_base L xs c9 t7.2 r e) (fun c10 e => ?_)
    show Bg L xs 136 99 [(0, .retAddr 0), (1, .ref 0), (2, .ref 37), (3, .int ((1 : Int32) + c2)), (4, .int c9)] [.int c10.1] (LAY c10.2.1) c10.2.2 R
    refine seg_Bg (pc' := 102) (lv' := [(0, .retAddr 0), (1, .ref 0), (2, .ref 37), (3, .int ((1 : Int32) + c2)), (4, .int c9)]) (st' := [.int c9, .ref 37, .int c10.1]) (lay' := LAY c10.2.1) (h' := c10.2.2) 2 rfl ?_
    refine call_Bg (a := 120) (la := [(0, .ref 37), (1, .int c9)]) (np := 105) (lv' := [(0, .retAddr 0), (1, .ref 0), (2, .ref 37), (3, .int ((1 : Int32) + c2)), (4, .int c9)]) (rest := [.int c10.1]) (res := fun r => ([.int r.1], LAY r.2.1, r.2.2)) rfl e (fun r e => BOq_base L xs c9 c10.2 r e) (fun c11 e => ?_)
    show Bg L xs 136 105 [(0, .retAddr 0), (1, .ref 0), (2, .ref 37), (3, .int ((1 : Int32) + c2)), (4, .int c9)] [.int c11.1, .int c10.1] (LAY c11.2.1) c11.2.2 R
    refine seg_Bg (pc' := (if c10.1 = c11.1 then 110 else 108)) (lv' := [(0, .retAddr 0), (1, .ref 0), (2, .ref 37), (3, .int ((1 : Int32) + c2)), (4, .int c9)]) (st' := []) (lay' := LAY c11.2.1) (h' := c11.2.2) 1 rfl ?_
    refine pc_ite e (fun e => ?_) (fun e => ?_)
    · refine seg_Bg (pc' := 119) (lv' := [(0, .retAddr 0), (1, .ref 0), (2, .ref 37), (3, .int ((1 : Int32) + c2)), (4, .int c9), (5, .int 0), (6, .int 0), (7, .int 0)]) (st' := []) (lay' := LAY c11.2.1) (h' := c11.2.2) 6 rfl ?_
      obtain ⟨t15o, et15o, e⟩ := bd_s e
      refine BJw_law_L119 L xs ((1 : Int32) + c2) c9 R (fun (t15x : (Int32 × Int32 × Int32 × Wd) ⊕ (Int32 × Wd)) => (sm t15x (fun t15 => bd (Oo_told 5 t15.2.2.2) fun c16 => if c16.1 = t15.1 then bd (Oo_told 6 c16.2) fun c17 => if c17.1 = t15.2.1 then bd (Oo_told 7 c17.2) fun c18 => bd (Oo_cost c18.1 0 c18.2) fun c19 => if c19.1 = t15.2.1 then bd (loopN 1000000 (fun s => Jw_law_L227 L xs ((1 : Int32) + c2) c9 t15.1 t15.2.1 s.1 s.2) (0, c19.2)) fun (t24x : (Int32 × Wd) ⊕ (Int32 × Wd)) => sm t24x (fun t24 => bd (Oo_told 7 t24.2) fun c25 => if ((1 : Int32) + c2) < 6 then bd (Oo_put 0 0 0 0 c25.2) fun c26 => Jw_law_J313 L xs ((1 : Int32) + c2) c9 t15.1 t15.2.1 c25.1 c26.1 c26.2 else Jw_law_J313 L xs ((1 : Int32) + c2) c9 t15.1 t15.2.1 c25.1 0 c25.2) (fun r36 => some r36) else some (0, c19.2) else some (0, c17.2) else some (0, c16.2)) (fun r36 => some r36)) = some o) (fun t15 e => ?_) (fun r36 e => ?_) 1000000 (0, 0, 0, c11.2) _ et15o e
      · refine seg_Bg (pc' := 187) (lv' := [(0, .retAddr 0), (1, .ref 0), (2, .ref 37), (3, .int ((1 : Int32) + c2)), (4, .int c9), (5, .int t15.1), (6, .int t15.2.1), (7, .int t15.2.2.1)]) (st' := [.int 5, .ref 0]) (lay' := LAY t15.2.2.2.1) (h' := t15.2.2.2.2) 2 rfl ?_
        refine call_Bg (a := 114) (la := [(0, .ref 0), (1, .int 5)]) (np := 190) (lv' := [(0, .retAddr 0), (1, .ref 0), (2, .ref 37), (3, .int ((1 : Int32) + c2)), (4, .int c9), (5, .int t15.1), (6, .int t15.2.1), (7, .int t15.2.2.1)]) (rest := []) (res := fun r => ([.int r.1], LAY r.2.1, r.2.2)) rfl e (fun r e => BOo_told L xs 5 t15.2.2.2 r e) (fun c16 e => ?_)
        show Bg L xs 136 190 [(0, .retAddr 0), (1, .ref 0), (2, .ref 37), (3, .int ((1 : Int32) + c2)), (4, .int c9), (5, .int t15.1), (6, .int t15.2.1), (7, .int t15.2.2.1)] [.int c16.1] (LAY c16.2.1) c16.2.2 R
        refine seg_Bg (pc' := (if c16.1 = t15.1 then 195 else 222)) (lv' := [(0, .retAddr 0), (1, .ref 0), (2, .ref 37), (3, .int ((1 : Int32) + c2)), (4, .int c9), (5, .int t15.1), (6, .int t15.2.1), (7, .int t15.2.2.1)]) (st' := []) (lay' := LAY c16.2.1) (h' := c16.2.2) 2 rfl ?_
        refine pc_ite e (fun e => ?_) (fun e => ?_)
        · refine seg_Bg (pc' := 198) (lv' := [(0, .retAddr 0), (1, .ref 0), (2, .ref 37), (3, .int ((1 : Int32) + c2)), (4, .int c9), (5, .int t15.1), (6, .int t15.2.1), (7, .int t15.2.2.1)]) (st' := [.int 6, .ref 0]) (lay' := LAY c16.2.1) (h' := c16.2.2) 2 rfl ?_
          refine call_Bg (a := 114) (la := [(0, .ref 0), (1, .int 6)]) (np := 201) (lv' := [(0, .retAddr 0), (1, .ref 0), (2, .ref 37), (3, .int ((1 : Int32) + c2)), (4, .int c9), (5, .int t15.1), (6, .int t15.2.1), (7, .int t15.2.2.1)]) (rest := []) (res := fun r => ([.int r.1], LAY r.2.1, r.2.2)) rfl e (fun r e => BOo_told L xs 6 c16.2 r e) (fun c17 e => ?_)
          show Bg L xs 136 201 [(0, .retAddr 0), (1, .ref 0), (2, .ref 37), (3, .int ((1 : Int32) + c2)), (4, .int c9), (5, .int t15.1), (6, .int t15.2.1), (7, .int t15.2.2.1)] [.int c17.1] (LAY c17.2.1) c17.2.2 R
          refine seg_Bg (pc' := (if c17.1 = t15.2.1 then 206 else 222)) (lv' := [(0, .retAddr 0), (1, .ref 0), (2, .ref 37), (3, .int ((1 : Int32) + c2)), (4, .int c9), (5, .int t15.1), (6, .int t15.2.1), (7, .int t15.2.2.1)]) (st' := []) (lay' := LAY c17.2.1) (h' := c17.2.2) 2 rfl ?_
          refine pc_ite e (fun e => ?_) (fun e => ?_)
          · refine seg_Bg (pc' := 210) (lv' := [(0, .retAddr 0), (1, .ref 0), (2, .ref 37), (3, .int ((1 : Int32) + c2)), (4, .int c9), (5, .int t15.1), (6, .int t15.2.1), (7, .int t15.2.2.1)]) (st' := [.int 7, .ref 0, .ref 0]) (lay' := LAY c17.2.1) (h' := c17.2.2) 3 rfl ?_
            refine call_Bg (a := 114) (la := [(0, .ref 0), (1, .int 7)]) (np := 213) (lv' := [(0, .retAddr 0), (1, .ref 0), (2, .ref 37), (3, .int ((1 : Int32) + c2)), (4, .int c9), (5, .int t15.1), (6, .int t15.2.1), (7, .int t15.2.2.1)]) (rest := [.ref 0]) (res := fun r => ([.int r.1], LAY r.2.1, r.2.2)) rfl e (fun r e => BOo_told L xs 7 c17.2 r e) (fun c18 e => ?_)
            show Bg L xs 136 213 [(0, .retAddr 0), (1, .ref 0), (2, .ref 37), (3, .int ((1 : Int32) + c2)), (4, .int c9), (5, .int t15.1), (6, .int t15.2.1), (7, .int t15.2.2.1)] [.int c18.1, .ref 0] (LAY c18.2.1) c18.2.2 R
            refine seg_Bg (pc' := 214) (lv' := [(0, .retAddr 0), (1, .ref 0), (2, .ref 37), (3, .int ((1 : Int32) + c2)), (4, .int c9), (5, .int t15.1), (6, .int t15.2.1), (7, .int t15.2.2.1)]) (st' := [.int 0, .int c18.1, .ref 0]) (lay' := LAY c18.2.1) (h' := c18.2.2) 1 rfl ?_
            refine call_Bg (a := 116) (la := [(0, .ref 0), (1, .int c18.1), (2, .int 0)]) (np := 217) (lv' := [(0, .retAddr 0), (1, .ref 0), (2, .ref 37), (3, .int ((1 : Int32) + c2)), (4, .int c9), (5, .int t15.1), (6, .int t15.2.1), (7, .int t15.2.2.1)]) (rest := []) (res := fun r => ([.int r.1], LAY r.2.1, r.2.2)) rfl e (fun r e => BOo_cost L xs c18.1 0 c18.2 r e) (fun c19 e => ?_)
            show Bg L xs 136 217 [(0, .retAddr 0), (1, .ref 0), (2, .ref 37), (3, .int ((1 : Int32) + c2)), (4, .int c9), (5, .int t15.1), (6, .int t15.2.1), (7, .int t15.2.2.1)] [.int c19.1] (LAY c19.2.1) c19.2.2 R
            refine seg_Bg (pc' := (if c19.1 = t15.2.1 then 224 else 222)) (lv' := [(0, .retAddr 0), (1, .ref 0), (2, .ref 37), (3, .int ((1 : Int32) + c2)), (4, .int c9), (5, .int t15.1), (6, .int t15.2.1), (7, .int t15.2.2.1)]) (st' := []) (lay' := LAY c19.2.1) (h' := c19.2.2) 2 rfl ?_
            refine pc_ite e (fun e => ?_) (fun e => ?_)
            · refine seg_Bg (pc' := 227) (lv' := [(0, .retAddr 0), (1, .ref 0), (2, .ref 37), (3, .int ((1 : Int32) + c2)), (4, .int c9), (5, .int t15.1), (6, .int t15.2.1), (7, .int 0)]) (st' := []) (lay' := LAY c19.2.1) (h' := c19.2.2) 2 rfl ?_
              obtain ⟨t24o, et24o, e⟩ := bd_s e
              refine BJw_law_L227 L xs ((1 : Int32) + c2) c9 t15.1 t15.2.1 R (fun (t24x : (Int32 × Wd) ⊕ (Int32 × Wd)) => (sm t24x (fun t24 => bd (Oo_told 7 t24.2) fun c25 => if ((1 : Int32) + c2) < 6 then bd (Oo_put 0 0 0 0 c25.2) fun c26 => Jw_law_J313 L xs ((1 : Int32) + c2) c9 t15.1 t15.2.1 c25.1 c26.1 c26.2 else Jw_law_J313 L xs ((1 : Int32) + c2) c9 t15.1 t15.2.1 c25.1 0 c25.2) (fun r36 => some r36)) = some o) (fun t24 e => ?_) (fun r36 e => ?_) 1000000 (0, c19.2) _ et24o e
              · refine seg_Bg (pc' := 290) (lv' := [(0, .retAddr 0), (1, .ref 0), (2, .ref 37), (3, .int ((1 : Int32) + c2)), (4, .int c9), (5, .int t15.1), (6, .int t15.2.1), (7, .int t24.1)]) (st' := [.int 7, .ref 0]) (lay' := LAY t24.2.1) (h' := t24.2.2) 2 rfl ?_
                refine call_Bg (a := 114) (la := [(0, .ref 0), (1, .int 7)]) (np := 293) (lv' := [(0, .retAddr 0), (1, .ref 0), (2, .ref 37), (3, .int ((1 : Int32) + c2)), (4, .int c9), (5, .int t15.1), (6, .int t15.2.1), (7, .int t24.1)]) (rest := []) (res := fun r => ([.int r.1], LAY r.2.1, r.2.2)) rfl e (fun r e => BOo_told L xs 7 t24.2 r e) (fun c25 e => ?_)
                show Bg L xs 136 293 [(0, .retAddr 0), (1, .ref 0), (2, .ref 37), (3, .int ((1 : Int32) + c2)), (4, .int c9), (5, .int t15.1), (6, .int t15.2.1), (7, .int t24.1)] [.int c25.1] (LAY c25.2.1) c25.2.2 R
                refine seg_Bg (pc' := (if ((1 : Int32) + c2) < 6 then 301 else 312)) (lv' := [(0, .retAddr 0), (1, .ref 0), (2, .ref 37), (3, .int ((1 : Int32) + c2)), (4, .int c9), (5, .int t15.1), (6, .int t15.2.1), (7, .int c25.1)]) (st' := []) (lay' := LAY c25.2.1) (h' := c25.2.2) 4 rfl ?_
                refine pc_ite e (fun e => ?_) (fun e => ?_)
                · refine seg_Bg (pc' := 306) (lv' := [(0, .retAddr 0), (1, .ref 0), (2, .ref 37), (3, .int ((1 : Int32) + c2)), (4, .int c9), (5, .int t15.1), (6, .int t15.2.1), (7, .int c25.1)]) (st' := [.int 0, .int 0, .int 0, .int 0, .ref 0]) (lay' := LAY c25.2.1) (h' := c25.2.2) 5 rfl ?_
                  refine call_Bg (a := 118) (la := [(0, .ref 0), (1, .int 0), (2, .int 0), (3, .int 0), (4, .int 0)]) (np := 309) (lv' := [(0, .retAddr 0), (1, .ref 0), (2, .ref 37), (3, .int ((1 : Int32) + c2)), (4, .int c9), (5, .int t15.1), (6, .int t15.2.1), (7, .int c25.1)]) (rest := []) (res := fun r => ([.int r.1], LAY r.2.1, r.2.2)) rfl e (fun r e => BOo_put L xs 0 0 0 0 c25.2 r e) (fun c26 e => ?_)
                  show Bg L xs 136 309 [(0, .retAddr 0), (1, .ref 0), (2, .ref 37), (3, .int ((1 : Int32) + c2)), (4, .int c9), (5, .int t15.1), (6, .int t15.2.1), (7, .int c25.1)] [.int c26.1] (LAY c26.2.1) c26.2.2 R
                  refine seg_Bg (pc' := 313) (lv' := [(0, .retAddr 0), (1, .ref 0), (2, .ref 37), (3, .int ((1 : Int32) + c2)), (4, .int c9), (5, .int t15.1), (6, .int t15.2.1), (7, .int c25.1)]) (st' := [.int c26.1]) (lay' := LAY c26.2.1) (h' := c26.2.2) 1 rfl ?_
                  exact BJw_law_J313 L xs ((1 : Int32) + c2) c9 t15.1 t15.2.1 c25.1 c26.1 c26.2 o e R hR
                · refine seg_Bg (pc' := 313) (lv' := [(0, .retAddr 0), (1, .ref 0), (2, .ref 37), (3, .int ((1 : Int32) + c2)), (4, .int c9), (5, .int t15.1), (6, .int t15.2.1), (7, .int c25.1)]) (st' := [.int 0]) (lay' := LAY c25.2.1) (h' := c25.2.2) 1 rfl ?_
                  exact BJw_law_J313 L xs ((1 : Int32) + c2) c9 t15.1 t15.2.1 c25.1 0 c25.2 o e R hR
              · rw [hR]; exact congrArg (fun r => (([.int r.1], LAY r.2.1, r.2.2) : List Value × Lay × Hp)) (Option.some.inj e).symm
            · refine seg_Bg (pc' := 223) (lv' := [(0, .retAddr 0), (1, .ref 0), (2, .ref 37), (3, .int ((1 : Int32) + c2)), (4, .int c9), (5, .int t15.1), (6, .int t15.2.1), (7, .int t15.2.2.1)]) (st' := [.int 0]) (lay' := LAY c19.2.1) (h' := c19.2.2) 1 rfl ?_
              rw [hR, ← Option.some.inj e]; exact ret_Bg rfl
          · refine seg_Bg (pc' := 223) (lv' := [(0, .retAddr 0), (1, .ref 0), (2, .ref 37), (3, .int ((1 : Int32) + c2)), (4, .int c9), (5, .int t15.1), (6, .int t15.2.1), (7, .int t15.2.2.1)]) (st' := [.int 0]) (lay' := LAY c17.2.1) (h' := c17.2.2) 1 rfl ?_
            rw [hR, ← Option.some.inj e]; exact ret_Bg rfl
        · refine seg_Bg (pc' := 223) (lv' := [(0, .retAddr 0), (1, .ref 0), (2, .ref 37), (3, .int ((1 : Int32) + c2)), (4, .int c9), (5, .int t15.1), (6, .int t15.2.1), (7, .int t15.2.2.1)]) (st' := [.int 0]) (lay' := LAY c16.2.1) (h' := c16.2.2) 1 rfl ?_
          rw [hR, ← Option.some.inj e]; exact ret_Bg rfl
      · rw [hR]; exact congrArg (fun r => (([.int r.1], LAY r.2.1, r.2.2) : List Value × Lay × Hp)) (Option.some.inj e).symm
    · refine seg_Bg (pc' := 109) (lv' := [(0, .retAddr 0), (1, .ref 0), (2, .ref 37), (3, .int ((1 : Int32) + c2)), (4, .int c9)]) (st' := [.int 0]) (lay' := LAY c11.2.1) (h' := c11.2.2) 1 rfl ?_
      rw [hR, ← Option.some.inj e]; exact ret_Bg rfl
  · rw [hR]; exact congrArg (fun r => (([.int r.1], LAY r.2.1, r.2.2) : List Value × Lay × Hp)) (Option.some.inj e).symm

