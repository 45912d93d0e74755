/-! Runs of the small machine are the functions of the methods. (Written by wip/p30/gen3.py.) -/
set_option maxRecDepth 100000 in
theorem BJw_cell (L : Nat) (xs : Nat → Int32) (v1 : Int32) (lay : Lay) (h : Hp) (o : Int32) (e : Jw_cell L xs v1 = some o) : Bg L xs 127 0 [(0, .retAddr 0), (1, .int v1)] [] lay h ([.int o], lay, h) := by
  obtain ⟨R, hR⟩ : ∃ R : List Value × Lay × Hp, R = ([.int o], lay, h) := ⟨_, rfl⟩
  rw [← hR]
  refine seg_Bg (pc' := (if v1 < (Int32.ofNat L) then 6 else 12)) (lv' := [(0, .retAddr 0), (1, .int v1)]) (st' := []) (lay' := lay) (h' := h) 4 rfl ?_
  refine pc_ite e (fun e => ?_) (fun e => ?_)
  · refine seg_Bg (pc' := 8) (lv' := [(0, .retAddr 0), (1, .int v1)]) (st' := [.int v1, .retAddr 0]) (lay' := lay) (h' := h) 2 rfl ?_
    refine gd_Bg (pc' := 9) (lv' := [(0, .retAddr 0), (1, .int v1)]) (st' := [.int (xs (Int32.toNatClampNeg v1))]) (lay' := lay) (h' := h) (g := (ibB v1 L && true)) rfl e fun e => ?_
    refine seg_Bg (pc' := 18) (lv' := [(0, .retAddr 0), (1, .int v1)]) (st' := [.int (xs (Int32.toNatClampNeg v1))]) (lay' := lay) (h' := h) 1 rfl ?_
    rw [hR, ← Option.some.inj e]; exact ret_Bg rfl
  · refine seg_Bg (pc' := 18) (lv' := [(0, .retAddr 0), (1, .int v1)]) (st' := [.int ((747796405 : Int32) * (v1 + (1 : Int32)))]) (lay' := lay) (h' := h) 5 rfl ?_
    rw [hR, ← Option.some.inj e]; exact ret_Bg rfl

set_option maxRecDepth 100000 in
theorem BJw_low (L : Nat) (xs : Nat → Int32) (v0 : Int32) (v1 : Int32) (lay : Lay) (h : Hp) (o : Int32) (e : Jw_low v0 v1 = some o) : Bg L xs 128 0 [(0, .int v0), (1, .int v1)] [] lay h ([.int o], lay, h) := by
  obtain ⟨R, hR⟩ : ∃ R : List Value × Lay × Hp, R = ([.int o], lay, h) := ⟨_, rfl⟩
  rw [← hR]
  refine seg_Bg (pc' := 5) (lv' := [(0, .int v0), (1, .int v1)]) (st' := [.int v1, .int (v0 &&& (2147483647 : Int32))]) (lay' := lay) (h' := h) 4 rfl ?_
  refine gd_Bg (pc' := 6) (lv' := [(0, .int v0), (1, .int v1)]) (st' := [.int ((v0 &&& (2147483647 : Int32)) - (v0 &&& (2147483647 : Int32)) / v1 * v1)]) (lay' := lay) (h' := h) (g := !(decide (v1 = 0))) rfl e fun e => ?_
  rw [hR, ← Option.some.inj e]; exact ret_Bg rfl

set_option maxRecDepth 100000 in
theorem BJw_drawn_L4_s (L : Nat) (xs : Nat → Int32) (v0 : Int32) (lay : Lay) (h : Hp) (R : List Value × Lay × Hp) (v1 v2 : Int32) (o : ((Int32 × Int32) ⊕ (Int32 × Int32))) (hH : ∀ s : Int32 × Int32, o = .inl s → Bg L xs 132 4 [(0, .int v0), (1, .int s.1), (2, .int s.2)] [] lay h R) (hE : ∀ t : Int32 × Int32, o = .inr t → Bg L xs 132 39 [(0, .int v0), (1, .int t.1), (2, .int t.2)] [] lay h R) (e : Jw_drawn_L4 v0 v1 v2 = some o) : Bg L xs 132 4 [(0, .int v0), (1, .int v1), (2, .int v2)] [] lay h R := by
  refine seg_Bg (pc' := (if v2 < 8 then 10 else 39)) (lv' := [(0, .int v0), (1, .int v1), (2, .int v2)]) (st' := []) (lay' := lay) (h' := h) 3 rfl ?_
  refine pc_ite e (fun e => ?_) (fun e => ?_)
  · refine seg_Bg (pc' := (if ((v0 >>> (((3 : Int32) + (v2 / 2)) &&& 31) : Int32) &&& (1 : Int32)) = 1 then 23 else 31)) (lv' := [(0, .int v0), (1, .int v1), (2, .int v2)]) (st' := []) (lay' := lay) (h' := h) 11 rfl ?_
    refine pc_ite e (fun e => ?_) (fun e => ?_)
    · refine seg_Bg (pc' := 4) (lv' := [(0, .int v0), (1, .int (v1 ||| ((1 : Int32) <<< (v2 &&& 31) : Int32))), (2, .int (v2 + 1))]) (st' := []) (lay' := lay) (h' := h) 9 rfl ?_
      exact hH (v1 ||| ((1 : Int32) <<< (v2 &&& 31) : Int32), v2 + 1) (Option.some.inj e).symm
    · refine seg_Bg (pc' := 4) (lv' := [(0, .int v0), (1, .int v1), (2, .int (v2 + 1))]) (st' := []) (lay' := lay) (h' := h) 4 rfl ?_
      exact hH (v1, v2 + 1) (Option.some.inj e).symm
  · exact hE (v1, v2) (Option.some.inj e).symm
theorem BJw_drawn_L4 (L : Nat) (xs : Nat → Int32) (v0 : Int32) (lay : Lay) (h : Hp) (R : List Value × Lay × Hp) (C : (Int32 × Int32) → Prop) (hE : ∀ t : Int32 × Int32, C t → Bg L xs 132 39 [(0, .int v0), (1, .int t.1), (2, .int t.2)] [] lay h R) (n : Nat) (s : Int32 × Int32) (o : (Int32 × Int32)) (e : loopN n (fun s => Jw_drawn_L4 v0 s.1 s.2) s = some o) (hC : C o) : Bg L xs 132 4 [(0, .int v0), (1, .int s.1), (2, .int s.2)] [] lay h R := by
  refine loop_B (fun s => Jw_drawn_L4 v0 s.1 s.2) (fun s : Int32 × Int32 => Bg L xs 132 4 [(0, .int v0), (1, .int s.1), (2, .int s.2)] [] lay h R) C (fun s o e => ?_) n s o e hC
  intro hK
  refine BJw_drawn_L4_s L xs v0 lay h R s.1 s.2 o (fun s q => by subst q; exact hK) (fun t q => by subst q; exact hE t hK) e
set_option maxRecDepth 100000 in
theorem BJw_drawn (L : Nat) (xs : Nat → Int32) (v0 : Int32) (lay : Lay) (h : Hp) (o : Int32) (e : Jw_drawn v0 = some o) : Bg L xs 132 0 [(0, .int v0)] [] lay h ([.int o], lay, h) := by
  obtain ⟨R, hR⟩ : ∃ R : List Value × Lay × Hp, R = ([.int o], lay, h) := ⟨_, rfl⟩
  rw [← hR]
  refine seg_Bg (pc' := 4) (lv' := [(0, .int v0), (1, .int 0), (2, .int 0)]) (st' := []) (lay' := lay) (h' := h) 4 rfl ?_
  obtain ⟨t1o, et1o, e⟩ := bd_s e
  refine BJw_drawn_L4 L xs v0 lay h R (fun (t1 : Int32 × Int32) => (bd (Jw_low v0 8) fun c2 => if c2 = 0 then bd (Jw_low (v0 >>> (3 &&& 31) : Int32) 256) fun c3 => some c3 else some t1.1) = some o) (fun t1 e => ?_) 1000000 (0, 0) _ et1o e
  refine seg_Bg (pc' := 42) (lv' := [(0, .int v0), (1, .int t1.1), (2, .int t1.2)]) (st' := [.int 8, .int v0]) (lay' := lay) (h' := h) 2 rfl ?_
  refine call_Bg (a := 128) (la := [(0, .int v0), (1, .int 8)]) (np := 45) (lv' := [(0, .int v0), (1, .int t1.1), (2, .int t1.2)]) (rest := []) (res := fun r => ([.int r], lay, h)) rfl e (fun r e => BJw_low L xs v0 8 lay h r e) (fun c2 e => ?_)
  show Bg L xs 132 45 [(0, .int v0), (1, .int t1.1), (2, .int t1.2)] [.int c2] lay h R
  refine seg_Bg (pc' := (if c2 = 0 then 48 else 60)) (lv' := [(0, .int v0), (1, .int t1.1), (2, .int t1.2)]) (st' := []) (lay' := lay) (h' := h) 1 rfl ?_
  refine pc_ite e (fun e => ?_) (fun e => ?_)
  · refine seg_Bg (pc' := 54) (lv' := [(0, .int v0), (1, .int t1.1), (2, .int t1.2)]) (st' := [.int 256, .int (v0 >>> (3 &&& 31) : Int32)]) (lay' := lay) (h' := h) 4 rfl ?_
    refine call_Bg (a := 128) (la := [(0, .int (v0 >>> (3 &&& 31) : Int32)), (1, .int 256)]) (np := 57) (lv' := [(0, .int v0), (1, .int t1.1), (2, .int t1.2)]) (rest := []) (res := fun r => ([.int r], lay, h)) rfl e (fun r e => BJw_low L xs (v0 >>> (3 &&& 31) : Int32) 256 lay h r e) (fun c3 e => ?_)
    show Bg L xs 132 57 [(0, .int v0), (1, .int t1.1), (2, .int t1.2)] [.int c3] lay h R
    refine seg_Bg (pc' := 61) (lv' := [(0, .int v0), (1, .int t1.1), (2, .int t1.2)]) (st' := [.int c3]) (lay' := lay) (h' := h) 1 rfl ?_
    rw [hR, ← Option.some.inj e]; exact ret_Bg rfl
  · refine seg_Bg (pc' := 61) (lv' := [(0, .int v0), (1, .int t1.1), (2, .int t1.2)]) (st' := [.int t1.1]) (lay' := lay) (h' := h) 1 rfl ?_
    rw [hR, ← Option.some.inj e]; exact ret_Bg rfl

set_option maxRecDepth 100000 in
theorem BJw_t (L : Nat) (xs : Nat → Int32) (v1 : Int32) (h : Wd) (o : Int32 × Wd) (e : Jw_t v1 h = some o) : Bg L xs 129 0 [(0, .ref 0), (1, .int v1)] [] (LAY h.1) h.2 ([.int o.1], LAY o.2.1, o.2.2) := by
  obtain ⟨R, hR⟩ : ∃ R : List Value × Lay × Hp, R = ([.int o.1], LAY o.2.1, o.2.2) := ⟨_, rfl⟩
  rw [← hR]
  refine seg_Bg (pc' := 2) (lv' := [(0, .ref 0), (1, .int v1)]) (st' := [.int v1, .ref 0]) (lay' := LAY h.1) (h' := h.2) 2 rfl ?_
  refine call_Bg (a := 112) (la := [(0, .ref 0), (1, .int v1)]) (np := 5) (lv' := [(0, .ref 0), (1, .int v1)]) (rest := []) (res := fun r => ([.int r.1], LAY r.2.1, r.2.2)) rfl e (fun r e => BOo_feed L xs v1 h r e) (fun c1 e => ?_)
  show Bg L xs 129 5 [(0, .ref 0), (1, .int v1)] [.int c1.1] (LAY c1.2.1) c1.2.2 R
  refine seg_Bg (pc' := (if 0 < c1.1 then 8 else 12)) (lv' := [(0, .ref 0), (1, .int v1)]) (st' := []) (lay' := LAY c1.2.1) (h' := c1.2.2) 1 rfl ?_
  refine pc_ite e (fun e => ?_) (fun e => ?_)
  · refine seg_Bg (pc' := 13) (lv' := [(0, .ref 0), (1, .int v1)]) (st' := [.int 1]) (lay' := LAY c1.2.1) (h' := c1.2.2) 2 rfl ?_
    rw [hR, ← Option.some.inj e]; exact ret_Bg rfl
  · refine seg_Bg (pc' := 13) (lv' := [(0, .ref 0), (1, .int v1)]) (st' := [.int 0]) (lay' := LAY c1.2.1) (h' := c1.2.2) 1 rfl ?_
    rw [hR, ← Option.some.inj e]; exact ret_Bg rfl

set_option maxRecDepth 100000 in
theorem half_out (r : Nat) (L : Nat) (xs : Nat → Int32) (v1 : Int32) (R : List Value × Lay × Hp) (v2 v3 : Int32) (w : Wd) (o : ((Int32 × Int32 × Wd) ⊕ (Int32 × Int32 × Wd))) (hH : ∀ s : Int32 × Int32 × Wd, o = .inl s → Bg L xs 130 26 [(0, .ref r), (1, .int v1), (2, .int s.1), (3, .int s.2.1)] [] (LAY s.2.2.1) s.2.2.2 R) (e : (some (.inl (0, v3 + (-1), w)) : Option ((Int32 × Int32 × Wd) ⊕ (Int32 × Int32 × Wd))) = some o) : Bg L xs 130 92 [(0, .ref r), (1, .int v1), (2, .int v2), (3, .int v3)] [] (LAY w.1) w.2 R := by
  refine seg_Bg (pc' := 26) (lv' := [(0, .ref r), (1, .int v1), (2, .int 0), (3, .int (v3 + (-1)))]) (st' := []) (lay' := LAY w.1) (h' := w.2) 4 rfl ?_
  exact hH (0, v3 + (-1), w) (Option.some.inj e).symm
set_option maxRecDepth 100000 in
theorem half_in (r : Nat) (L : Nat) (xs : Nat → Int32) (v1 : Int32) (R : List Value × Lay × Hp) (v2 v3 : Int32) (w : Wd) (o : ((Int32 × Int32 × Wd) ⊕ (Int32 × Int32 × Wd))) (hH : ∀ s : Int32 × Int32 × Wd, o = .inl s → Bg L xs 130 26 [(0, .ref r), (1, .int v1), (2, .int s.1), (3, .int s.2.1)] [] (LAY s.2.2.1) s.2.2.2 R) (e : (some (.inl (1, v3 + (-1), w)) : Option ((Int32 × Int32 × Wd) ⊕ (Int32 × Int32 × Wd))) = some o) : Bg L xs 130 88 [(0, .ref r), (1, .int v1), (2, .int v2), (3, .int v3)] [] (LAY w.1) w.2 R := by
  refine seg_Bg (pc' := 26) (lv' := [(0, .ref r), (1, .int v1), (2, .int 1), (3, .int (v3 + (-1)))]) (st' := []) (lay' := LAY w.1) (h' := w.2) 5 rfl ?_
  exact hH (1, v3 + (-1), w) (Option.some.inj e).symm
set_option maxRecDepth 100000 in
theorem BJw_half_L26_s (L : Nat) (xs : Nat → Int32) (v1 : Int32) (R : List Value × Lay × Hp) (v2 v3 : Int32) (h : Wd) (o : ((Int32 × Int32 × Wd) ⊕ (Int32 × Int32 × Wd))) (hH : ∀ s : Int32 × Int32 × Wd, o = .inl s → Bg L xs 130 26 [(0, .ref 0), (1, .int v1), (2, .int s.1), (3, .int s.2.1)] [] (LAY s.2.2.1) s.2.2.2 R) (hE : ∀ t : Int32 × Int32 × Wd, o = .inr t → Bg L xs 130 100 [(0, .ref 0), (1, .int v1), (2, .int t.1), (3, .int t.2.1)] [] (LAY t.2.2.1) t.2.2.2 R) (e : Jw_half_L26 v1 v2 v3 h = some o) : Bg L xs 130 26 [(0, .ref 0), (1, .int v1), (2, .int v2), (3, .int v3)] [] (LAY h.1) h.2 R := by
  refine seg_Bg (pc' := (if v3 < 0 then 100 else 30)) (lv' := [(0, .ref 0), (1, .int v1), (2, .int v2), (3, .int v3)]) (st' := []) (lay' := LAY h.1) (h' := h.2) 2 rfl ?_
  refine pc_ite e (fun e => ?_) (fun e => ?_)
  · exact hE (v2, v3, h) (Option.some.inj e).symm
  · refine seg_Bg (pc' := (if v2 = 0 then 92 else 34)) (lv' := [(0, .ref 0), (1, .int v1), (2, .int v2), (3, .int v3)]) (st' := []) (lay' := LAY h.1) (h' := h.2) 2 rfl ?_
    refine pc_ite e (fun e => ?_) (fun e => ?_)
    · exact half_out 0 L xs v1 R v2 v3 h o hH e
    · refine seg_Bg (pc' := 37) (lv' := [(0, .ref 0), (1, .int v1), (2, .int v2), (3, .int v3)]) (st' := [.int 63, .ref 0]) (lay' := LAY h.1) (h' := h.2) 2 rfl ?_
      refine call_Bg (a := 129) (la := [(0, .ref 0), (1, .int 63)]) (np := 40) (lv' := [(0, .ref 0), (1, .int v1), (2, .int v2), (3, .int v3)]) (rest := []) (res := fun r => ([.int r.1], LAY r.2.1, r.2.2)) rfl e (fun r e => BJw_t L xs 63 h r e) (fun c2 e => ?_)
      show Bg L xs 130 40 [(0, .ref 0), (1, .int v1), (2, .int v2), (3, .int v3)] [.int c2.1] (LAY c2.2.1) c2.2.2 R
      refine seg_Bg (pc' := (if c2.1 = 0 then 92 else 43)) (lv' := [(0, .ref 0), (1, .int v1), (2, .int v2), (3, .int v3)]) (st' := []) (lay' := LAY c2.2.1) (h' := c2.2.2) 1 rfl ?_
      refine pc_ite e (fun e => ?_) (fun e => ?_)
      · exact half_out 0 L xs v1 R v2 v3 c2.2 o hH e
      · refine seg_Bg (pc' := 46) (lv' := [(0, .ref 0), (1, .int v1), (2, .int v2), (3, .int v3)]) (st' := [.int 99, .ref 0]) (lay' := LAY c2.2.1) (h' := c2.2.2) 2 rfl ?_
        refine call_Bg (a := 129) (la := [(0, .ref 0), (1, .int 99)]) (np := 49) (lv' := [(0, .ref 0), (1, .int v1), (2, .int v2), (3, .int v3)]) (rest := []) (res := fun r => ([.int r.1], LAY r.2.1, r.2.2)) rfl e (fun r e => BJw_t L xs 99 c2.2 r e) (fun c3 e => ?_)
        show Bg L xs 130 49 [(0, .ref 0), (1, .int v1), (2, .int v2), (3, .int v3)] [.int c3.1] (LAY c3.2.1) c3.2.2 R
        refine seg_Bg (pc' := (if c3.1 = 0 then 92 else 52)) (lv' := [(0, .ref 0), (1, .int v1), (2, .int v2), (3, .int v3)]) (st' := []) (lay' := LAY c3.2.1) (h' := c3.2.2) 1 rfl ?_
        refine pc_ite e (fun e => ?_) (fun e => ?_)
        · exact half_out 0 L xs v1 R v2 v3 c3.2 o hH e
        · refine seg_Bg (pc' := 56) (lv' := [(0, .ref 0), (1, .int v1), (2, .int v2), (3, .int v3)]) (st' := [.int v1, .int 48, .ref 0]) (lay' := LAY c3.2.1) (h' := c3.2.2) 3 rfl ?_
          refine seg_Bg (pc' := 59) (lv' := [(0, .ref 0), (1, .int v1), (2, .int v2), (3, .int v3)]) (st' := [.int ((2 : Int32) * v3), .int v1, .int 48, .ref 0]) (lay' := LAY c3.2.1) (h' := c3.2.2) 3 rfl ?_
          refine seg_Bg (pc' := 62) (lv' := [(0, .ref 0), (1, .int v1), (2, .int v2), (3, .int v3)]) (st' := [.int (v1 >>> ((((2 : Int32) * v3) + (1 : Int32)) &&& 31) : Int32), .int 48, .ref 0]) (lay' := LAY c3.2.1) (h' := c3.2.2) 3 rfl ?_
          refine seg_Bg (pc' := 65) (lv' := [(0, .ref 0), (1, .int v1), (2, .int v2), (3, .int v3)]) (st' := [.int ((48 : Int32) + ((v1 >>> ((((2 : Int32) * v3) + (1 : Int32)) &&& 31) : Int32) &&& (1 : Int32))), .ref 0]) (lay' := LAY c3.2.1) (h' := c3.2.2) 3 rfl ?_
          refine call_Bg (a := 129) (la := [(0, .ref 0), (1, .int ((48 : Int32) + ((v1 >>> ((((2 : Int32) * v3) + (1 : Int32)) &&& 31) : Int32) &&& (1 : Int32))))]) (np := 68) (lv' := [(0, .ref 0), (1, .int v1), (2, .int v2), (3, .int v3)]) (rest := []) (res := fun r => ([.int r.1], LAY r.2.1, r.2.2)) rfl e (fun r e => BJw_t L xs ((48 : Int32) + ((v1 >>> ((((2 : Int32) * v3) + (1 : Int32)) &&& 31) : Int32) &&& (1 : Int32))) c3.2 r e) (fun c4 e => ?_)
          show Bg L xs 130 68 [(0, .ref 0), (1, .int v1), (2, .int v2), (3, .int v3)] [.int c4.1] (LAY c4.2.1) c4.2.2 R
          refine seg_Bg (pc' := (if c4.1 = 0 then 92 else 71)) (lv' := [(0, .ref 0), (1, .int v1), (2, .int v2), (3, .int v3)]) (st' := []) (lay' := LAY c4.2.1) (h' := c4.2.2) 1 rfl ?_
          refine pc_ite e (fun e => ?_) (fun e => ?_)
          · exact half_out 0 L xs v1 R v2 v3 c4.2 o hH e
          · refine seg_Bg (pc' := 75) (lv' := [(0, .ref 0), (1, .int v1), (2, .int v2), (3, .int v3)]) (st' := [.int v1, .int 48, .ref 0]) (lay' := LAY c4.2.1) (h' := c4.2.2) 3 rfl ?_
            refine seg_Bg (pc' := 78) (lv' := [(0, .ref 0), (1, .int v1), (2, .int v2), (3, .int v3)]) (st' := [.int ((2 : Int32) * v3), .int v1, .int 48, .ref 0]) (lay' := LAY c4.2.1) (h' := c4.2.2) 3 rfl ?_
            refine seg_Bg (pc' := 81) (lv' := [(0, .ref 0), (1, .int v1), (2, .int v2), (3, .int v3)]) (st' := [.int ((v1 >>> (((2 : Int32) * v3) &&& 31) : Int32) &&& (1 : Int32)), .int 48, .ref 0]) (lay' := LAY c4.2.1) (h' := c4.2.2) 3 rfl ?_
            refine seg_Bg (pc' := 82) (lv' := [(0, .ref 0), (1, .int v1), (2, .int v2), (3, .int v3)]) (st' := [.int ((48 : Int32) + ((v1 >>> (((2 : Int32) * v3) &&& 31) : Int32) &&& (1 : Int32))), .ref 0]) (lay' := LAY c4.2.1) (h' := c4.2.2) 1 rfl ?_
            refine call_Bg (a := 129) (la := [(0, .ref 0), (1, .int ((48 : Int32) + ((v1 >>> (((2 : Int32) * v3) &&& 31) : Int32) &&& (1 : Int32))))]) (np := 85) (lv' := [(0, .ref 0), (1, .int v1), (2, .int v2), (3, .int v3)]) (rest := []) (res := fun r => ([.int r.1], LAY r.2.1, r.2.2)) rfl e (fun r e => BJw_t L xs ((48 : Int32) + ((v1 >>> (((2 : Int32) * v3) &&& 31) : Int32) &&& (1 : Int32))) c4.2 r e) (fun c5 e => ?_)
            show Bg L xs 130 85 [(0, .ref 0), (1, .int v1), (2, .int v2), (3, .int v3)] [.int c5.1] (LAY c5.2.1) c5.2.2 R
            refine seg_Bg (pc' := (if c5.1 = 0 then 92 else 88)) (lv' := [(0, .ref 0), (1, .int v1), (2, .int v2), (3, .int v3)]) (st' := []) (lay' := LAY c5.2.1) (h' := c5.2.2) 1 rfl ?_
            refine pc_ite e (fun e => ?_) (fun e => ?_)
            · exact half_out 0 L xs v1 R v2 v3 c5.2 o hH e
            · exact half_in 0 L xs v1 R v2 v3 c5.2 o hH e
theorem BJw_half_L26 (L : Nat) (xs : Nat → Int32) (v1 : Int32) (R : List Value × Lay × Hp) (C : (Int32 × Int32 × Wd) → Prop) (hE : ∀ t : Int32 × Int32 × Wd, C t → Bg L xs 130 100 [(0, .ref 0), (1, .int v1), (2, .int t.1), (3, .int t.2.1)] [] (LAY t.2.2.1) t.2.2.2 R) (n : Nat) (s : Int32 × Int32 × Wd) (o : (Int32 × Int32 × Wd)) (e : loopN n (fun s => Jw_half_L26 v1 s.1 s.2.1 s.2.2) s = some o) (hC : C o) : Bg L xs 130 26 [(0, .ref 0), (1, .int v1), (2, .int s.1), (3, .int s.2.1)] [] (LAY s.2.2.1) s.2.2.2 R := by
  refine loop_B (fun s => Jw_half_L26 v1 s.1 s.2.1 s.2.2) (fun s : Int32 × Int32 × Wd => Bg L xs 130 26 [(0, .ref 0), (1, .int v1), (2, .int s.1), (3, .int s.2.1)] [] (LAY s.2.2.1) s.2.2.2 R) C (fun s o e => ?_) n s o e hC
  intro hK
  refine BJw_half_L26_s L xs v1 R s.1 s.2.1 s.2.2 o (fun s q => by subst q; exact hK) (fun t q => by subst q; exact hE t hK) e
set_option maxRecDepth 100000 in
theorem BJw_half_J23 (L : Nat) (xs : Nat → Int32) (v1 s0 : Int32) (h : Wd) (o : (Int32 × Wd)) (e : Jw_half_J23 v1 s0 h = some o) (R : List Value × Lay × Hp) (hR : R = ([.int o.1], LAY o.2.1, o.2.2)) : Bg L xs 130 23 [(0, .ref 0), (1, .int v1)] [.int s0] (LAY h.1) h.2 R := by
  refine seg_Bg (pc' := 26) (lv' := [(0, .ref 0), (1, .int v1), (2, .int s0), (3, .int 1)]) (st' := []) (lay' := LAY h.1) (h' := h.2) 3 rfl ?_
  obtain ⟨t6o, et6o, e⟩ := bd_s e
  refine BJw_half_L26 L xs v1 R (fun (t6 : Int32 × Int32 × Wd) => (bif isZ t6.1 then some (t6.1, t6.2.2) else none) = some o) (fun t6 e => ?_) 1000000 (s0, 1, h) _ et6o e
  refine seg_Bg (pc' := 101) (lv' := [(0, .ref 0), (1, .int v1), (2, .int t6.1), (3, .int t6.2.1)]) (st' := [.int t6.1]) (lay' := LAY t6.2.2.1) (h' := t6.2.2.2) 1 rfl ?_
  exact retZ_Bg (g := isZ t6.1) rfl e fun e => (by rw [hR, ← Option.some.inj e])
set_option maxRecDepth 100000 in
theorem BJw_half (L : Nat) (xs : Nat → Int32) (v1 : Int32) (h : Wd) (o : Int32 × Wd) (e : Jw_half v1 h = some o) : Bg L xs 130 0 [(0, .ref 0), (1, .int v1)] [] (LAY h.1) h.2 ([.int o.1], LAY o.2.1, o.2.2) := by
  obtain ⟨R, hR⟩ : ∃ R : List Value × Lay × Hp, R = ([.int o.1], LAY o.2.1, o.2.2) := ⟨_, rfl⟩
  rw [← hR]
  refine seg_Bg (pc' := 3) (lv' := [(0, .ref 0), (1, .int v1)]) (st' := [.int 63, .ref 0]) (lay' := LAY h.1) (h' := h.2) 2 rfl ?_
  refine call_Bg (a := 129) (la := [(0, .ref 0), (1, .int 63)]) (np := 6) (lv' := [(0, .ref 0), (1, .int v1)]) (rest := []) (res := fun r => ([.int r.1], LAY r.2.1, r.2.2)) rfl e (fun r e => BJw_t L xs 63 h r e) (fun c1 e => ?_)
  show Bg L xs 130 6 [(0, .ref 0), (1, .int v1)] [.int c1.1] (LAY c1.2.1) c1.2.2 R
  refine seg_Bg (pc' := (if c1.1 = 0 then 22 else 9)) (lv' := [(0, .ref 0), (1, .int v1)]) (st' := []) (lay' := LAY c1.2.1) (h' := c1.2.2) 1 rfl ?_
  refine pc_ite e (fun e => ?_) (fun e => ?_)
  · refine seg_Bg (pc' := 23) (lv' := [(0, .ref 0), (1, .int v1)]) (st' := [.int 0]) (lay' := LAY c1.2.1) (h' := c1.2.2) 1 rfl ?_
    exact BJw_half_J23 L xs v1 0 c1.2 o e R hR
  · refine seg_Bg (pc' := 12) (lv' := [(0, .ref 0), (1, .int v1)]) (st' := [.int 98, .ref 0]) (lay' := LAY c1.2.1) (h' := c1.2.2) 2 rfl ?_
    refine call_Bg (a := 129) (la := [(0, .ref 0), (1, .int 98)]) (np := 15) (lv' := [(0, .ref 0), (1, .int v1)]) (rest := []) (res := fun r => ([.int r.1], LAY r.2.1, r.2.2)) rfl e (fun r e => BJw_t L xs 98 c1.2 r e) (fun c7 e => ?_)
    show Bg L xs 130 15 [(0, .ref 0), (1, .int v1)] [.int c7.1] (LAY c7.2.1) c7.2.2 R
    refine seg_Bg (pc' := (if c7.1 = 0 then 22 else 18)) (lv' := [(0, .ref 0), (1, .int v1)]) (st' := []) (lay' := LAY c7.2.1) (h' := c7.2.2) 1 rfl ?_
    refine pc_ite e (fun e => ?_) (fun e => ?_)
    · refine seg_Bg (pc' := 23) (lv' := [(0, .ref 0), (1, .int v1)]) (st' := [.int 0]) (lay' := LAY c7.2.1) (h' := c7.2.2) 1 rfl ?_
      exact BJw_half_J23 L xs v1 0 c7.2 o e R hR
    · refine seg_Bg (pc' := 23) (lv' := [(0, .ref 0), (1, .int v1)]) (st' := [.int 1]) (lay' := LAY c7.2.1) (h' := c7.2.2) 2 rfl ?_
      exact BJw_half_J23 L xs v1 1 c7.2 o e R hR

set_option maxRecDepth 100000 in
theorem BJw_told (L : Nat) (xs : Nat → Int32) (v1 : Int32) (v2 : Int32) (h : Wd) (o : Int32 × Wd) (e : Jw_told v1 v2 h = some o) : Bg L xs 131 0 [(0, .ref 0), (1, .int v1), (2, .int v2)] [] (LAY h.1) h.2 ([.int o.1], LAY o.2.1, o.2.2) := by
  obtain ⟨R, hR⟩ : ∃ R : List Value × Lay × Hp, R = ([.int o.1], LAY o.2.1, o.2.2) := ⟨_, rfl⟩
  rw [← hR]
  refine seg_Bg (pc' := 3) (lv' := [(0, .ref 0), (1, .int v1), (2, .int v2)]) (st' := [.int 63, .ref 0]) (lay' := LAY h.1) (h' := h.2) 2 rfl ?_
  refine call_Bg (a := 129) (la := [(0, .ref 0), (1, .int 63)]) (np := 6) (lv' := [(0, .ref 0), (1, .int v1), (2, .int v2)]) (rest := []) (res := fun r => ([.int r.1], LAY r.2.1, r.2.2)) rfl e (fun r e => BJw_t L xs 63 h r e) (fun c1 e => ?_)
  show Bg L xs 131 6 [(0, .ref 0), (1, .int v1), (2, .int v2)] [.int c1.1] (LAY c1.2.1) c1.2.2 R
  refine seg_Bg (pc' := (if c1.1 = 0 then 61 else 9)) (lv' := [(0, .ref 0), (1, .int v1), (2, .int v2)]) (st' := []) (lay' := LAY c1.2.1) (h' := c1.2.2) 1 rfl ?_
  refine pc_ite e (fun e => ?_) (fun e => ?_)
  · refine seg_Bg (pc' := 62) (lv' := [(0, .ref 0), (1, .int v1), (2, .int v2)]) (st' := [.int 0]) (lay' := LAY c1.2.1) (h' := c1.2.2) 1 rfl ?_
    rw [hR, ← Option.some.inj e]; exact ret_Bg rfl
  · refine seg_Bg (pc' := 12) (lv' := [(0, .ref 0), (1, .int v1), (2, .int v2)]) (st' := [.int 97, .ref 0]) (lay' := LAY c1.2.1) (h' := c1.2.2) 2 rfl ?_
    refine call_Bg (a := 129) (la := [(0, .ref 0), (1, .int 97)]) (np := 15) (lv' := [(0, .ref 0), (1, .int v1), (2, .int v2)]) (rest := []) (res := fun r => ([.int r.1], LAY r.2.1, r.2.2)) rfl e (fun r e => BJw_t L xs 97 c1.2 r e) (fun c2 e => ?_)
    show Bg L xs 131 15 [(0, .ref 0), (1, .int v1), (2, .int v2)] [.int c2.1] (LAY c2.2.1) c2.2.2 R
    refine seg_Bg (pc' := (if c2.1 = 0 then 61 else 18)) (lv' := [(0, .ref 0), (1, .int v1), (2, .int v2)]) (st' := []) (lay' := LAY c2.2.1) (h' := c2.2.2) 1 rfl ?_
    refine pc_ite e (fun e => ?_) (fun e => ?_)
    · refine seg_Bg (pc' := 62) (lv' := [(0, .ref 0), (1, .int v1), (2, .int v2)]) (st' := [.int 0]) (lay' := LAY c2.2.1) (h' := c2.2.2) 1 rfl ?_
      rw [hR, ← Option.some.inj e]; exact ret_Bg rfl
    · refine seg_Bg (pc' := 22) (lv' := [(0, .ref 0), (1, .int v1), (2, .int v2)]) (st' := [.int (v1 >>> (4 &&& 31) : Int32), .ref 0]) (lay' := LAY c2.2.1) (h' := c2.2.2) 4 rfl ?_
      refine call_Bg (a := 130) (la := [(0, .ref 0), (1, .int (v1 >>> (4 &&& 31) : Int32))]) (np := 25) (lv' := [(0, .ref 0), (1, .int v1), (2, .int v2)]) (rest := []) (res := fun r => ([.int r.1], LAY r.2.1, r.2.2)) rfl e (fun r e => BJw_half L xs (v1 >>> (4 &&& 31) : Int32) c2.2 r e) (fun c3 e => ?_)
      show Bg L xs 131 25 [(0, .ref 0), (1, .int v1), (2, .int v2)] [.int c3.1] (LAY c3.2.1) c3.2.2 R
      refine seg_Bg (pc' := (if c3.1 = 0 then 61 else 28)) (lv' := [(0, .ref 0), (1, .int v1), (2, .int v2)]) (st' := []) (lay' := LAY c3.2.1) (h' := c3.2.2) 1 rfl ?_
      refine pc_ite e (fun e => ?_) (fun e => ?_)
      · refine seg_Bg (pc' := 62) (lv' := [(0, .ref 0), (1, .int v1), (2, .int v2)]) (st' := [.int 0]) (lay' := LAY c3.2.1) (h' := c3.2.2) 1 rfl ?_
        rw [hR, ← Option.some.inj e]; exact ret_Bg rfl
      · refine seg_Bg (pc' := 33) (lv' := [(0, .ref 0), (1, .int v1), (2, .int v2)]) (st' := [.int (v1 &&& (15 : Int32)), .ref 0]) (lay' := LAY c3.2.1) (h' := c3.2.2) 4 rfl ?_
        refine call_Bg (a := 130) (la := [(0, .ref 0), (1, .int (v1 &&& (15 : Int32)))]) (np := 36) (lv' := [(0, .ref 0), (1, .int v1), (2, .int v2)]) (rest := []) (res := fun r => ([.int r.1], LAY r.2.1, r.2.2)) rfl e (fun r e => BJw_half L xs (v1 &&& (15 : Int32)) c3.2 r e) (fun c4 e => ?_)
        show Bg L xs 131 36 [(0, .ref 0), (1, .int v1), (2, .int v2)] [.int c4.1] (LAY c4.2.1) c4.2.2 R
        refine seg_Bg (pc' := (if c4.1 = 0 then 61 else 39)) (lv' := [(0, .ref 0), (1, .int v1), (2, .int v2)]) (st' := []) (lay' := LAY c4.2.1) (h' := c4.2.2) 1 rfl ?_
        refine pc_ite e (fun e => ?_) (fun e => ?_)
        · refine seg_Bg (pc' := 62) (lv' := [(0, .ref 0), (1, .int v1), (2, .int v2)]) (st' := [.int 0]) (lay' := LAY c4.2.1) (h' := c4.2.2) 1 rfl ?_
          rw [hR, ← Option.some.inj e]; exact ret_Bg rfl
        · refine seg_Bg (pc' := 40) (lv' := [(0, .ref 0), (1, .int v1), (2, .int v2)]) (st' := [.ref 0]) (lay' := LAY c4.2.1) (h' := c4.2.2) 1 rfl ?_
          refine call_Bg (a := 113) (la := [(0, .ref 0)]) (np := 43) (lv' := [(0, .ref 0), (1, .int v1), (2, .int v2)]) (rest := []) (res := fun r => ([.int r.1], LAY r.2.1, r.2.2)) rfl e (fun r e => BOo_tell L xs c4.2 r e) (fun c5 e => ?_)
          show Bg L xs 131 43 [(0, .ref 0), (1, .int v1), (2, .int v2)] [.int c5.1] (LAY c5.2.1) c5.2.2 R
          refine seg_Bg (pc' := (if c5.1 = v2 then 47 else 61)) (lv' := [(0, .ref 0), (1, .int v1), (2, .int v2)]) (st' := []) (lay' := LAY c5.2.1) (h' := c5.2.2) 2 rfl ?_
          refine pc_ite e (fun e => ?_) (fun e => ?_)
          · refine seg_Bg (pc' := 50) (lv' := [(0, .ref 0), (1, .int v1), (2, .int v2)]) (st' := [.int 0, .int v2, .ref 0]) (lay' := LAY c5.2.1) (h' := c5.2.2) 3 rfl ?_
            refine call_Bg (a := 115) (la := [(0, .ref 0), (1, .int v2), (2, .int 0)]) (np := 53) (lv' := [(0, .ref 0), (1, .int v1), (2, .int v2)]) (rest := []) (res := fun r => ([.int r.1], LAY r.2.1, r.2.2)) rfl e (fun r e => BOo_function L xs v2 0 c5.2 r e) (fun c6 e => ?_)
            show Bg L xs 131 53 [(0, .ref 0), (1, .int v1), (2, .int v2)] [.int c6.1] (LAY c6.2.1) c6.2.2 R
            refine seg_Bg (pc' := (if c6.1 = v1 then 57 else 61)) (lv' := [(0, .ref 0), (1, .int v1), (2, .int v2)]) (st' := []) (lay' := LAY c6.2.1) (h' := c6.2.2) 2 rfl ?_
            refine pc_ite e (fun e => ?_) (fun e => ?_)
            · refine seg_Bg (pc' := 62) (lv' := [(0, .ref 0), (1, .int v1), (2, .int v2)]) (st' := [.int 1]) (lay' := LAY c6.2.1) (h' := c6.2.2) 2 rfl ?_
              rw [hR, ← Option.some.inj e]; exact ret_Bg rfl
            · refine seg_Bg (pc' := 62) (lv' := [(0, .ref 0), (1, .int v1), (2, .int v2)]) (st' := [.int 0]) (lay' := LAY c6.2.1) (h' := c6.2.2) 1 rfl ?_
              rw [hR, ← Option.some.inj e]; exact ret_Bg rfl
          · refine seg_Bg (pc' := 62) (lv' := [(0, .ref 0), (1, .int v1), (2, .int v2)]) (st' := [.int 0]) (lay' := LAY c5.2.1) (h' := c5.2.2) 1 rfl ?_
            rw [hR, ← Option.some.inj e]; exact ret_Bg rfl

set_option maxRecDepth 100000 in
theorem BJw_t_1 (L : Nat) (xs : Nat → Int32) (v1 : Int32) (h : Wd) (o : Int32 × Wd) (e : Jw_t_1 v1 h = some o) : Bg L xs 129 0 [(0, .ref 37), (1, .int v1)] [] (LAY h.1) h.2 ([.int o.1], LAY o.2.1, o.2.2) := by
  obtain ⟨R, hR⟩ : ∃ R : List Value × Lay × Hp, R = ([.int o.1], LAY o.2.1, o.2.2) := ⟨_, rfl⟩
  rw [← hR]
  refine seg_Bg (pc' := 2) (lv' := [(0, .ref 37), (1, .int v1)]) (st' := [.int v1, .ref 37]) (lay' := LAY h.1) (h' := h.2) 2 rfl ?_
  refine call_Bg (a := 112) (la := [(0, .ref 37), (1, .int v1)]) (np := 5) (lv' := [(0, .ref 37), (1, .int v1)]) (rest := []) (res := fun r => ([.int r.1], LAY r.2.1, r.2.2)) rfl e (fun r e => BOq_feed L xs v1 h r e) (fun c1 e => ?_)
  show Bg L xs 129 5 [(0, .ref 37), (1, .int v1)] [.int c1.1] (LAY c1.2.1) c1.2.2 R
  refine seg_Bg (pc' := (if 0 < c1.1 then 8 else 12)) (lv' := [(0, .ref 37), (1, .int v1)]) (st' := []) (lay' := LAY c1.2.1) (h' := c1.2.2) 1 rfl ?_
  refine pc_ite e (fun e => ?_) (fun e => ?_)
  · refine seg_Bg (pc' := 13) (lv' := [(0, .ref 37), (1, .int v1)]) (st' := [.int 1]) (lay' := LAY c1.2.1) (h' := c1.2.2) 2 rfl ?_
    rw [hR, ← Option.some.inj e]; exact ret_Bg rfl
  · refine seg_Bg (pc' := 13) (lv' := [(0, .ref 37), (1, .int v1)]) (st' := [.int 0]) (lay' := LAY c1.2.1) (h' := c1.2.2) 1 rfl ?_
    rw [hR, ← Option.some.inj e]; exact ret_Bg rfl

set_option maxRecDepth 100000 in
theorem BJw_half_1_L26_s (L : Nat) (xs : Nat → Int32) (v1 : Int32) (R : List Value × Lay × Hp) (v2 v3 : Int32) (h : Wd) (o : ((Int32 × Int32 × Wd) ⊕ (Int32 × Int32 × Wd))) (hH : ∀ s : Int32 × Int32 × Wd, o = .inl s → Bg L xs 130 26 [(0, .ref 37), (1, .int v1), (2, .int s.1), (3, .int s.2.1)] [] (LAY s.2.2.1) s.2.2.2 R) (hE : ∀ t : Int32 × Int32 × Wd, o = .inr t → Bg L xs 130 100 [(0, .ref 37), (1, .int v1), (2, .int t.1), (3, .int t.2.1)] [] (LAY t.2.2.1) t.2.2.2 R) (e : Jw_half_1_L26 v1 v2 v3 h = some o) : Bg L xs 130 26 [(0, .ref 37), (1, .int v1), (2, .int v2), (3, .int v3)] [] (LAY h.1) h.2 R := by
  refine seg_Bg (pc' := (if v3 < 0 then 100 else 30)) (lv' := [(0, .ref 37), (1, .int v1), (2, .int v2), (3, .int v3)]) (st' := []) (lay' := LAY h.1) (h' := h.2) 2 rfl ?_
  refine pc_ite e (fun e => ?_) (fun e => ?_)
  · exact hE (v2, v3, h) (Option.some.inj e).symm
  · refine seg_Bg (pc' := (if v2 = 0 then 92 else 34)) (lv' := [(0, .ref 37), (1, .int v1), (2, .int v2), (3, .int v3)]) (st' := []) (lay' := LAY h.1) (h' := h.2) 2 rfl ?_
    refine pc_ite e (fun e => ?_) (fun e => ?_)
    · exact half_out 37 L xs v1 R v2 v3 h o hH e
    · refine seg_Bg (pc' := 37) (lv' := [(0, .ref 37), (1, .int v1), (2, .int v2), (3, .int v3)]) (st' := [.int 63, .ref 37]) (lay' := LAY h.1) (h' := h.2) 2 rfl ?_
      refine call_Bg (a := 129) (la := [(0, .ref 37), (1, .int 63)]) (np := 40) (lv' := [(0, .ref 37), (1, .int v1), (2, .int v2), (3, .int v3)]) (rest := []) (res := fun r => ([.int r.1], LAY r.2.1, r.2.2)) rfl e (fun r e => BJw_t_1 L xs 63 h r e) (fun c2 e => ?_)
      show Bg L xs 130 40 [(0, .ref 37), (1, .int v1), (2, .int v2), (3, .int v3)] [.int c2.1] (LAY c2.2.1) c2.2.2 R
      refine seg_Bg (pc' := (if c2.1 = 0 then 92 else 43)) (lv' := [(0, .ref 37), (1, .int v1), (2, .int v2), (3, .int v3)]) (st' := []) (lay' := LAY c2.2.1) (h' := c2.2.2) 1 rfl ?_
      refine pc_ite e (fun e => ?_) (fun e => ?_)
      · exact half_out 37 L xs v1 R v2 v3 c2.2 o hH e
      · refine seg_Bg (pc' := 46) (lv' := [(0, .ref 37), (1, .int v1), (2, .int v2), (3, .int v3)]) (st' := [.int 99, .ref 37]) (lay' := LAY c2.2.1) (h' := c2.2.2) 2 rfl ?_
        refine call_Bg (a := 129) (la := [(0, .ref 37), (1, .int 99)]) (np := 49) (lv' := [(0, .ref 37), (1, .int v1), (2, .int v2), (3, .int v3)]) (rest := []) (res := fun r => ([.int r.1], LAY r.2.1, r.2.2)) rfl e (fun r e => BJw_t_1 L xs 99 c2.2 r e) (fun c3 e => ?_)
        show Bg L xs 130 49 [(0, .ref 37), (1, .int v1), (2, .int v2), (3, .int v3)] [.int c3.1] (LAY c3.2.1) c3.2.2 R
        refine seg_Bg (pc' := (if c3.1 = 0 then 92 else 52)) (lv' := [(0, .ref 37), (1, .int v1), (2, .int v2), (3, .int v3)]) (st' := []) (lay' := LAY c3.2.1) (h' := c3.2.2) 1 rfl ?_
        refine pc_ite e (fun e => ?_) (fun e => ?_)
        · exact half_out 37 L xs v1 R v2 v3 c3.2 o hH e
        · refine seg_Bg (pc' := 56) (lv' := [(0, .ref 37), (1, .int v1), (2, .int v2), (3, .int v3)]) (st' := [.int v1, .int 48, .ref 37]) (lay' := LAY c3.2.1) (h' := c3.2.2) 3 rfl ?_
          refine seg_Bg (pc' := 59) (lv' := [(0, .ref 37), (1, .int v1), (2, .int v2), (3, .int v3)]) (st' := [.int ((2 : Int32) * v3), .int v1, .int 48, .ref 37]) (lay' := LAY c3.2.1) (h' := c3.2.2) 3 rfl ?_
          refine seg_Bg (pc' := 62) (lv' := [(0, .ref 37), (1, .int v1), (2, .int v2), (3, .int v3)]) (st' := [.int (v1 >>> ((((2 : Int32) * v3) + (1 : Int32)) &&& 31) : Int32), .int 48, .ref 37]) (lay' := LAY c3.2.1) (h' := c3.2.2) 3 rfl ?_
          refine seg_Bg (pc' := 65) (lv' := [(0, .ref 37), (1, .int v1), (2, .int v2), (3, .int v3)]) (st' := [.int ((48 : Int32) + ((v1 >>> ((((2 : Int32) * v3) + (1 : Int32)) &&& 31) : Int32) &&& (1 : Int32))), .ref 37]) (lay' := LAY c3.2.1) (h' := c3.2.2) 3 rfl ?_
          refine call_Bg (a := 129) (la := [(0, .ref 37), (1, .int ((48 : Int32) + ((v1 >>> ((((2 : Int32) * v3) + (1 : Int32)) &&& 31) : Int32) &&& (1 : Int32))))]) (np := 68) (lv' := [(0, .ref 37), (1, .int v1), (2, .int v2), (3, .int v3)]) (rest := []) (res := fun r => ([.int r.1], LAY r.2.1, r.2.2)) rfl e (fun r e => BJw_t_1 L xs ((48 : Int32) + ((v1 >>> ((((2 : Int32) * v3) + (1 : Int32)) &&& 31) : Int32) &&& (1 : Int32))) c3.2 r e) (fun c4 e => ?_)
          show Bg L xs 130 68 [(0, .ref 37), (1, .int v1), (2, .int v2), (3, .int v3)] [.int c4.1] (LAY c4.2.1) c4.2.2 R
          refine seg_Bg (pc' := (if c4.1 = 0 then 92 else 71)) (lv' := [(0, .ref 37), (1, .int v1), (2, .int v2), (3, .int v3)]) (st' := []) (lay' := LAY c4.2.1) (h' := c4.2.2) 1 rfl ?_
          refine pc_ite e (fun e => ?_) (fun e => ?_)
          · exact half_out 37 L xs v1 R v2 v3 c4.2 o hH e
          · refine seg_Bg (pc' := 75) (lv' := [(0, .ref 37), (1, .int v1), (2, .int v2), (3, .int v3)]) (st' := [.int v1, .int 48, .ref 37]) (lay' := LAY c4.2.1) (h' := c4.2.2) 3 rfl ?_
            refine seg_Bg (pc' := 78) (lv' := [(0, .ref 37), (1, .int v1), (2, .int v2), (3, .int v3)]) (st' := [.int ((2 : Int32) * v3), .int v1, .int 48, .ref 37]) (lay' := LAY c4.2.1) (h' := c4.2.2) 3 rfl ?_
            refine seg_Bg (pc' := 81) (lv' := [(0, .ref 37), (1, .int v1), (2, .int v2), (3, .int v3)]) (st' := [.int ((v1 >>> (((2 : Int32) * v3) &&& 31) : Int32) &&& (1 : Int32)), .int 48, .ref 37]) (lay' := LAY c4.2.1) (h' := c4.2.2) 3 rfl ?_
            refine seg_Bg (pc' := 82) (lv' := [(0, .ref 37), (1, .int v1), (2, .int v2), (3, .int v3)]) (st' := [.int ((48 : Int32) + ((v1 >>> (((2 : Int32) * v3) &&& 31) : Int32) &&& (1 : Int32))), .ref 37]) (lay' := LAY c4.2.1) (h' := c4.2.2) 1 rfl ?_
            refine call_Bg (a := 129) (la := [(0, .ref 37), (1, .int ((48 : Int32) + ((v1 >>> (((2 : Int32) * v3) &&& 31) : Int32) &&& (1 : Int32))))]) (np := 85) (lv' := [(0, .ref 37), (1, .int v1), (2, .int v2), (3, .int v3)]) (rest := []) (res := fun r => ([.int r.1], LAY r.2.1, r.2.2)) rfl e (fun r e => BJw_t_1 L xs ((48 : Int32) + ((v1 >>> (((2 : Int32) * v3) &&& 31) : Int32) &&& (1 : Int32))) c4.2 r e) (fun c5 e => ?_)
            show Bg L xs 130 85 [(0, .ref 37), (1, .int v1), (2, .int v2), (3, .int v3)] [.int c5.1] (LAY c5.2.1) c5.2.2 R
            refine seg_Bg (pc' := (if c5.1 = 0 then 92 else 88)) (lv' := [(0, .ref 37), (1, .int v1), (2, .int v2), (3, .int v3)]) (st' := []) (lay' := LAY c5.2.1) (h' := c5.2.2) 1 rfl ?_
            refine pc_ite e (fun e => ?_) (fun e => ?_)
            · exact half_out 37 L xs v1 R v2 v3 c5.2 o hH e
            · exact half_in 37 L xs v1 R v2 v3 c5.2 o hH e
theorem BJw_half_1_L26 (L : Nat) (xs : Nat → Int32) (v1 : Int32) (R : List Value × Lay × Hp) (C : (Int32 × Int32 × Wd) → Prop) (hE : ∀ t : Int32 × Int32 × Wd, C t → Bg L xs 130 100 [(0, .ref 37), (1, .int v1), (2, .int t.1), (3, .int t.2.1)] [] (LAY t.2.2.1) t.2.2.2 R) (n : Nat) (s : Int32 × Int32 × Wd) (o : (Int32 × Int32 × Wd)) (e : loopN n (fun s => Jw_half_1_L26 v1 s.1 s.2.1 s.2.2) s = some o) (hC : C o) : Bg L xs 130 26 [(0, .ref 37), (1, .int v1), (2, .int s.1), (3, .int s.2.1)] [] (LAY s.2.2.1) s.2.2.2 R := by
  refine loop_B (fun s => Jw_half_1_L26 v1 s.1 s.2.1 s.2.2) (fun s : Int32 × Int32 × Wd => Bg L xs 130 26 [(0, .ref 37), (1, .int v1), (2, .int s.1), (3, .int s.2.1)] [] (LAY s.2.2.1) s.2.2.2 R) C (fun s o e => ?_) n s o e hC
  intro hK
  refine BJw_half_1_L26_s L xs v1 R s.1 s.2.1 s.2.2 o (fun s q => by subst q; exact hK) (fun t q => by subst q; exact hE t hK) e
set_option maxRecDepth 100000 in
theorem BJw_half_1_J23 (L : Nat) (xs : Nat → Int32) (v1 s0 : Int32) (h : Wd) (o : (Int32 × Wd)) (e : Jw_half_1_J23 v1 s0 h = some o) (R : List Value × Lay × Hp) (hR : R = ([.int o.1], LAY o.2.1, o.2.2)) : Bg L xs 130 23 [(0, .ref 37), (1, .int v1)] [.int s0] (LAY h.1) h.2 R := by
  refine seg_Bg (pc' := 26) (lv' := [(0, .ref 37), (1, .int v1), (2, .int s0), (3, .int 1)]) (st' := []) (lay' := LAY h.1) (h' := h.2) 3 rfl ?_
  obtain ⟨t6o, et6o, e⟩ := bd_s e
  refine BJw_half_1_L26 L xs v1 R (fun (t6 : Int32 × Int32 × Wd) => (bif isZ t6.1 then some (t6.1, t6.2.2) else none) = some o) (fun t6 e => ?_) 1000000 (s0, 1, h) _ et6o e
  refine seg_Bg (pc' := 101) (lv' := [(0, .ref 37), (1, .int v1), (2, .int t6.1), (3, .int t6.2.1)]) (st' := [.int t6.1]) (lay' := LAY t6.2.2.1) (h' := t6.2.2.2) 1 rfl ?_
  exact retZ_Bg (g := isZ t6.1) rfl e fun e => (by rw [hR, ← Option.some.inj e])
set_option maxRecDepth 100000 in
theorem BJw_half_1 (L : Nat) (xs : Nat → Int32) (v1 : Int32) (h : Wd) (o : Int32 × Wd) (e : Jw_half_1 v1 h = some o) : Bg L xs 130 0 [(0, .ref 37), (1, .int v1)] [] (LAY h.1) h.2 ([.int o.1], LAY o.2.1, o.2.2) := by
  obtain ⟨R, hR⟩ : ∃ R : List Value × Lay × Hp, R = ([.int o.1], LAY o.2.1, o.2.2) := ⟨_, rfl⟩
  rw [← hR]
  refine seg_Bg (pc' := 3) (lv' := [(0, .ref 37), (1, .int v1)]) (st' := [.int 63, .ref 37]) (lay' := LAY h.1) (h' := h.2) 2 rfl ?_
  refine call_Bg (a := 129) (la := [(0, .ref 37), (1, .int 63)]) (np := 6) (lv' := [(0, .ref 37), (1, .int v1)]) (rest := []) (res := fun r => ([.int r.1], LAY r.2.1, r.2.2)) rfl e (fun r e => BJw_t_1 L xs 63 h r e) (fun c1 e => ?_)
  show Bg L xs 130 6 [(0, .ref 37), (1, .int v1)] [.int c1.1] (LAY c1.2.1) c1.2.2 R
  refine seg_Bg (pc' := (if c1.1 = 0 then 22 else 9)) (lv' := [(0, .ref 37), (1, .int v1)]) (st' := []) (lay' := LAY c1.2.1) (h' := c1.2.2) 1 rfl ?_
  refine pc_ite e (fun e => ?_) (fun e => ?_)
  · refine seg_Bg (pc' := 23) (lv' := [(0, .ref 37), (1, .int v1)]) (st' := [.int 0]) (lay' := LAY c1.2.1) (h' := c1.2.2) 1 rfl ?_
    exact BJw_half_1_J23 L xs v1 0 c1.2 o e R hR
  · refine seg_Bg (pc' := 12) (lv' := [(0, .ref 37), (1, .int v1)]) (st' := [.int 98, .ref 37]) (lay' := LAY c1.2.1) (h' := c1.2.2) 2 rfl ?_
    refine call_Bg (a := 129) (la := [(0, .ref 37), (1, .int 98)]) (np := 15) (lv' := [(0, .ref 37), (1, .int v1)]) (rest := []) (res := fun r => ([.int r.1], LAY r.2.1, r.2.2)) rfl e (fun r e => BJw_t_1 L xs 98 c1.2 r e) (fun c7 e => ?_)
    show Bg L xs 130 15 [(0, .ref 37), (1, .int v1)] [.int c7.1] (LAY c7.2.1) c7.2.2 R
    refine seg_Bg (pc' := (if c7.1 = 0 then 22 else 18)) (lv' := [(0, .ref 37), (1, .int v1)]) (st' := []) (lay' := LAY c7.2.1) (h' := c7.2.2) 1 rfl ?_
    refine pc_ite e (fun e => ?_) (fun e => ?_)
    · refine seg_Bg (pc' := 23) (lv' := [(0, .ref 37), (1, .int v1)]) (st' := [.int 0]) (lay' := LAY c7.2.1) (h' := c7.2.2) 1 rfl ?_
      exact BJw_half_1_J23 L xs v1 0 c7.2 o e R hR
    · refine seg_Bg (pc' := 23) (lv' := [(0, .ref 37), (1, .int v1)]) (st' := [.int 1]) (lay' := LAY c7.2.1) (h' := c7.2.2) 2 rfl ?_
      exact BJw_half_1_J23 L xs v1 1 c7.2 o e R hR

set_option maxRecDepth 100000 in
theorem BJw_told_1 (L : Nat) (xs : Nat → Int32) (v1 : Int32) (v2 : Int32) (h : Wd) (o : Int32 × Wd) (e : Jw_told_1 v1 v2 h = some o) : Bg L xs 131 0 [(0, .ref 37), (1, .int v1), (2, .int v2)] [] (LAY h.1) h.2 ([.int o.1], LAY o.2.1, o.2.2) := by
  obtain ⟨R, hR⟩ : ∃ R : List Value × Lay × Hp, R = ([.int o.1], LAY o.2.1, o.2.2) := ⟨_, rfl⟩
  rw [← hR]
  refine seg_Bg (pc' := 3) (lv' := [(0, .ref 37), (1, .int v1), (2, .int v2)]) (st' := [.int 63, .ref 37]) (lay' := LAY h.1) (h' := h.2) 2 rfl ?_
  refine call_Bg (a := 129) (la := [(0, .ref 37), (1, .int 63)]) (np := 6) (lv' := [(0, .ref 37), (1, .int v1), (2, .int v2)]) (rest := []) (res := fun r => ([.int r.1], LAY r.2.1, r.2.2)) rfl e (fun r e => BJw_t_1 L xs 63 h r e) (fun c1 e => ?_)
  show Bg L xs 131 6 [(0, .ref 37), (1, .int v1), (2, .int v2)] [.int c1.1] (LAY c1.2.1) c1.2.2 R
  refine seg_Bg (pc' := (if c1.1 = 0 then 61 else 9)) (lv' := [(0, .ref 37), (1, .int v1), (2, .int v2)]) (st' := []) (lay' := LAY c1.2.1) (h' := c1.2.2) 1 rfl ?_
  refine pc_ite e (fun e => ?_) (fun e => ?_)
  · refine seg_Bg (pc' := 62) (lv' := [(0, .ref 37), (1, .int v1), (2, .int v2)]) (st' := [.int 0]) (lay' := LAY c1.2.1) (h' := c1.2.2) 1 rfl ?_
    rw [hR, ← Option.some.inj e]; exact ret_Bg rfl
  · refine seg_Bg (pc' := 12) (lv' := [(0, .ref 37), (1, .int v1), (2, .int v2)]) (st' := [.int 97, .ref 37]) (lay' := LAY c1.2.1) (h' := c1.2.2) 2 rfl ?_
    refine call_Bg (a := 129) (la := [(0, .ref 37), (1, .int 97)]) (np := 15) (lv' := [(0, .ref 37), (1, .int v1), (2, .int v2)]) (rest := []) (res := fun r => ([.int r.1], LAY r.2.1, r.2.2)) rfl e (fun r e => BJw_t_1 L xs 97 c1.2 r e) (fun c2 e => ?_)
    show Bg L xs 131 15 [(0, .ref 37), (1, .int v1), (2, .int v2)] [.int c2.1] (LAY c2.2.1) c2.2.2 R
    refine seg_Bg (pc' := (if c2.1 = 0 then 61 else 18)) (lv' := [(0, .ref 37), (1, .int v1), (2, .int v2)]) (st' := []) (lay' := LAY c2.2.1) (h' := c2.2.2) 1 rfl ?_
    refine pc_ite e (fun e => ?_) (fun e => ?_)
    · refine seg_Bg (pc' := 62) (lv' := [(0, .ref 37), (1, .int v1), (2, .int v2)]) (st' := [.int 0]) (lay' := LAY c2.2.1) (h' := c2.2.2) 1 rfl ?_
      rw [hR, ← Option.some.inj e]; exact ret_Bg rfl
    · refine seg_Bg (pc' := 22) (lv' := [(0, .ref 37), (1, .int v1), (2, .int v2)]) (st' := [.int (v1 >>> (4 &&& 31) : Int32), .ref 37]) (lay' := LAY c2.2.1) (h' := c2.2.2) 4 rfl ?_
      refine call_Bg (a := 130) (la := [(0, .ref 37), (1, .int (v1 >>> (4 &&& 31) : Int32))]) (np := 25) (lv' := [(0, .ref 37), (1, .int v1), (2, .int v2)]) (rest := []) (res := fun r => ([.int r.1], LAY r.2.1, r.2.2)) rfl e (fun r e => BJw_half_1 L xs (v1 >>> (4 &&& 31) : Int32) c2.2 r e) (fun c3 e => ?_)
      show Bg L xs 131 25 [(0, .ref 37), (1, .int v1), (2, .int v2)] [.int c3.1] (LAY c3.2.1) c3.2.2 R
      refine seg_Bg (pc' := (if c3.1 = 0 then 61 else 28)) (lv' := [(0, .ref 37), (1, .int v1), (2, .int v2)]) (st' := []) (lay' := LAY c3.2.1) (h' := c3.2.2) 1 rfl ?_
      refine pc_ite e (fun e => ?_) (fun e => ?_)
      · refine seg_Bg (pc' := 62) (lv' := [(0, .ref 37), (1, .int v1), (2, .int v2)]) (st' := [.int 0]) (lay' := LAY c3.2.1) (h' := c3.2.2) 1 rfl ?_
        rw [hR, ← Option.some.inj e]; exact ret_Bg rfl
      · refine seg_Bg (pc' := 33) (lv' := [(0, .ref 37), (1, .int v1), (2, .int v2)]) (st' := [.int (v1 &&& (15 : Int32)), .ref 37]) (lay' := LAY c3.2.1) (h' := c3.2.2) 4 rfl ?_
        refine call_Bg (a := 130) (la := [(0, .ref 37), (1, .int (v1 &&& (15 : Int32)))]) (np := 36) (lv' := [(0, .ref 37), (1, .int v1), (2, .int v2)]) (rest := []) (res := fun r => ([.int r.1], LAY r.2.1, r.2.2)) rfl e (fun r e => BJw_half_1 L xs (v1 &&& (15 : Int32)) c3.2 r e) (fun c4 e => ?_)
        show Bg L xs 131 36 [(0, .ref 37), (1, .int v1), (2, .int v2)] [.int c4.1] (LAY c4.2.1) c4.2.2 R
        refine seg_Bg (pc' := (if c4.1 = 0 then 61 else 39)) (lv' := [(0, .ref 37), (1, .int v1), (2, .int v2)]) (st' := []) (lay' := LAY c4.2.1) (h' := c4.2.2) 1 rfl ?_
        refine pc_ite e (fun e => ?_) (fun e => ?_)
        · refine seg_Bg (pc' := 62) (lv' := [(0, .ref 37), (1, .int v1), (2, .int v2)]) (st' := [.int 0]) (lay' := LAY c4.2.1) (h' := c4.2.2) 1 rfl ?_
          rw [hR, ← Option.some.inj e]; exact ret_Bg rfl
        · refine seg_Bg (pc' := 40) (lv' := [(0, .ref 37), (1, .int v1), (2, .int v2)]) (st' := [.ref 37]) (lay' := LAY c4.2.1) (h' := c4.2.2) 1 rfl ?_
          refine call_Bg (a := 113) (la := [(0, .ref 37)]) (np := 43) (lv' := [(0, .ref 37), (1, .int v1), (2, .int v2)]) (rest := []) (res := fun r => ([.int r.1], LAY r.2.1, r.2.2)) rfl e (fun r e => BOq_tell L xs c4.2 r e) (fun c5 e => ?_)
          show Bg L xs 131 43 [(0, .ref 37), (1, .int v1), (2, .int v2)] [.int c5.1] (LAY c5.2.1) c5.2.2 R
          refine seg_Bg (pc' := (if c5.1 = v2 then 47 else 61)) (lv' := [(0, .ref 37), (1, .int v1), (2, .int v2)]) (st' := []) (lay' := LAY c5.2.1) (h' := c5.2.2) 2 rfl ?_
          refine pc_ite e (fun e => ?_) (fun e => ?_)
          · refine seg_Bg (pc' := 50) (lv' := [(0, .ref 37), (1, .int v1), (2, .int v2)]) (st' := [.int 0, .int v2, .ref 37]) (lay' := LAY c5.2.1) (h' := c5.2.2) 3 rfl ?_
            refine call_Bg (a := 115) (la := [(0, .ref 37), (1, .int v2), (2, .int 0)]) (np := 53) (lv' := [(0, .ref 37), (1, .int v1), (2, .int v2)]) (rest := []) (res := fun r => ([.int r.1], LAY r.2.1, r.2.2)) rfl e (fun r e => BOq_function L xs v2 0 c5.2 r e) (fun c6 e => ?_)
            show Bg L xs 131 53 [(0, .ref 37), (1, .int v1), (2, .int v2)] [.int c6.1] (LAY c6.2.1) c6.2.2 R
            refine seg_Bg (pc' := (if c6.1 = v1 then 57 else 61)) (lv' := [(0, .ref 37), (1, .int v1), (2, .int v2)]) (st' := []) (lay' := LAY c6.2.1) (h' := c6.2.2) 2 rfl ?_
            refine pc_ite e (fun e => ?_) (fun e => ?_)
            · refine seg_Bg (pc' := 62) (lv' := [(0, .ref 37), (1, .int v1), (2, .int v2)]) (st' := [.int 1]) (lay' := LAY c6.2.1) (h' := c6.2.2) 2 rfl ?_
              rw [hR, ← Option.some.inj e]; exact ret_Bg rfl
            · refine seg_Bg (pc' := 62) (lv' := [(0, .ref 37), (1, .int v1), (2, .int v2)]) (st' := [.int 0]) (lay' := LAY c6.2.1) (h' := c6.2.2) 1 rfl ?_
              rw [hR, ← Option.some.inj e]; exact ret_Bg rfl
          · refine seg_Bg (pc' := 62) (lv' := [(0, .ref 37), (1, .int v1), (2, .int v2)]) (st' := [.int 0]) (lay' := LAY c5.2.1) (h' := c5.2.2) 1 rfl ?_
            rw [hR, ← Option.some.inj e]; exact ret_Bg rfl

