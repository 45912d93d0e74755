/-! What a method leaves as it was. (Written by wip/whole/gen3.py.) -/
def SJwy_lookFor : List Nat := [20, 21, 22, 23]
theorem FJwy_lookFor_L45_s (v1 v2 : Int32) (h0 : Hp) (v3 v4 : Int32) (h : Hp) (o : ((Int32 × Int32 × Hp) ⊕ (Int32 × Int32 × Hp))) (e : Jwy_lookFor_L45 v1 v2 v3 v4 h = some o) (wh : Fm SJwy_lookFor h0 h) : sm o (fun s => Fm SJwy_lookFor h0 s.2.2) (fun t => Fm SJwy_lookFor h0 t.2.2) := by
  refine ite_e e (fun e => ?_) (fun e => ?_)
  · refine ite_e e (fun e => ?_) (fun e => ?_)
    · obtain ⟨c4, ec4, e⟩ := bd_s e
      refine ite_e e (fun e => ?_) (fun e => ?_)
      · rw [← Option.some.inj e]; exact wh
      · obtain ⟨c5, ec5, e⟩ := bd_s e
        have wc5 := fr_tr (wh) (fr_sub (T := SJwy_lookFor) (FJpu_first_1 v4 h _ ec5) (by decide))
        obtain ⟨c6, ec6, e⟩ := bd_s e
        refine ite_e e (fun e => ?_) (fun e => ?_)
        · rw [← Option.some.inj e]; exact wc5
        · obtain ⟨c7, ec7, e⟩ := bd_s e
          obtain ⟨c8, ec8, e⟩ := bd_s e
          have wc8 := fr_tr (wc5) (fr_sub (T := SJwy_lookFor) (FJwy_lookForSecond v1 v4 (v2 - c7) c5 _ ec8) (by decide))
          refine ite_e e (fun e => ?_) (fun e => ?_)
          · rw [← Option.some.inj e]; exact wc8
          · rw [← Option.some.inj e]; exact wc8
    · rw [← Option.some.inj e]; exact wh
  · rw [← Option.some.inj e]; exact wh
theorem FJwy_lookFor_L45 (v1 v2 : Int32) (n : Nat) (s0 : Int32 × Int32 × Hp) (o : (Int32 × Int32 × Hp)) (e : loopN n (fun s => Jwy_lookFor_L45 v1 v2 s.1 s.2.1 s.2.2) s0 = some o) : Fm SJwy_lookFor (s0.2.2) o.2.2 := by
  refine loop_F (fun s => Jwy_lookFor_L45 v1 v2 s.1 s.2.1 s.2.2) (fun s : Int32 × Int32 × Hp => Fm SJwy_lookFor (s0.2.2) (s.2.2)) (fun o : (Int32 × Int32 × Hp) => Fm SJwy_lookFor (s0.2.2) o.2.2) (fun s o e q => ?_) n s0 o e (fr_rf _ _)
  exact FJwy_lookFor_L45_s v1 v2 _ s.1 s.2.1 s.2.2 o e q
theorem FJwy_lookFor (v1 : Int32) (h : Hp) (o : Hp) (e : Jwy_lookFor v1 h = some o) : Fm SJwy_lookFor h o := by
  obtain ⟨c1, ec1, e⟩ := bd_s e
  refine ite_e e (fun e => ?_) (fun e => ?_)
  · rw [← Option.some.inj e]; exact fr_rf _ _
  · have e := gd_e e
    refine ite_e e (fun e => ?_) (fun e => ?_)
    · obtain ⟨c2, ec2, e⟩ := bd_s e
      obtain ⟨c3, ec3, e⟩ := bd_s e
      have wc3 := fr_tr (fr_rf _ _) (fr_sub (T := SJwy_lookFor) (FJpu_begin_1 c2 h _ ec3) (by decide))
      obtain ⟨t9x, et9, e⟩ := bd_s e
      have qt9 := FJwy_lookFor_L45 v1 (c1 - (1 : Int32)) 1000000 (0, 0, c3) _ et9
      skip
      skip
      have wt9 := fr_tr (wc3) qt9
      rw [← Option.some.inj e]; exact wt9
    · rw [← Option.some.inj e]; exact fr_rf _ _
def SJwy_partOf : List Nat := [20, 21, 22, 23]
theorem FJwy_partOf (v1 : Int32) (v2 : Int32) (h : Hp) (o : Int32 × Hp) (e : Jwy_partOf v1 v2 h = some o) : Fm SJwy_partOf h o.2 := by
  obtain ⟨c1, ec1, e⟩ := bd_s e
  have wc1 := fr_tr (fr_rf _ _) (fr_sub (T := SJwy_partOf) (FJwy_lookFor v1 h _ ec1) (by decide))
  obtain ⟨c2, ec2, e⟩ := bd_s e
  rw [← Option.some.inj e]; exact wc1
def SJwy_needParts : List Nat := [20, 21, 22, 23, 24]
theorem FJwy_needParts_L24_s (v1 : Int32) (h0 : Hp) (v2 : Int32) (h : Hp) (o : ((Int32 × Hp) ⊕ (Int32 × Hp))) (e : Jwy_needParts_L24 v1 v2 h = some o) (wh : Fm SJwy_needParts h0 h) : sm o (fun s => Fm SJwy_needParts h0 s.2) (fun t => Fm SJwy_needParts h0 t.2) := by
  refine ite_e e (fun e => ?_) (fun e => ?_)
  · obtain ⟨c3, ec3, e⟩ := bd_s e
    obtain ⟨c4, ec4, e⟩ := bd_s e
    refine ite_e e (fun e => ?_) (fun e => ?_)
    · rw [← Option.some.inj e]; exact wh
    · have e := gd_e e
      refine lt_e e fun h5 e qh5 => ?_
      have wh5 := fr_set (S := SJwy_needParts) (wh) qh5 (by decide)
      rw [← Option.some.inj e]; exact wh5
  · rw [← Option.some.inj e]; exact wh
theorem FJwy_needParts_L24 (v1 : Int32) (n : Nat) (s0 : Int32 × Hp) (o : (Int32 × Hp)) (e : loopN n (fun s => Jwy_needParts_L24 v1 s.1 s.2) s0 = some o) : Fm SJwy_needParts (s0.2) o.2 := by
  refine loop_F (fun s => Jwy_needParts_L24 v1 s.1 s.2) (fun s : Int32 × Hp => Fm SJwy_needParts (s0.2) (s.2)) (fun o : (Int32 × Hp) => Fm SJwy_needParts (s0.2) o.2) (fun s o e q => ?_) n s0 o e (fr_rf _ _)
  exact FJwy_needParts_L24_s v1 _ s.1 s.2 o e q
theorem FJwy_needParts (v1 : Int32) (h : Hp) (o : Hp) (e : Jwy_needParts v1 h = some o) : Fm SJwy_needParts h o := by
  obtain ⟨c1, ec1, e⟩ := bd_s e
  refine ite_e e (fun e => ?_) (fun e => ?_)
  · rw [← Option.some.inj e]; exact fr_rf _ _
  · have e := gd_e e
    refine ite_e e (fun e => ?_) (fun e => ?_)
    · rw [← Option.some.inj e]; exact fr_rf _ _
    · obtain ⟨c2, ec2, e⟩ := bd_s e
      have wc2 := fr_tr (fr_rf _ _) (fr_sub (T := SJwy_needParts) (FJwy_lookFor v1 h _ ec2) (by decide))
      obtain ⟨t6x, et6, e⟩ := bd_s e
      have qt6 := FJwy_needParts_L24 v1 1000000 (0, c2) _ et6
      skip
      skip
      have wt6 := fr_tr (wc2) qt6
      rw [← Option.some.inj e]; exact wt6
def SJwy_measure : List Nat := [25]
theorem FJwy_measure (v1 : Int32) (h : Hp) (o : Hp) (e : Jwy_measure v1 h = some o) : Fm SJwy_measure h o := by
  obtain ⟨c1, ec1, e⟩ := bd_s e
  refine ite_e e (fun e => ?_) (fun e => ?_)
  · rw [← Option.some.inj e]; exact fr_rf _ _
  · have e := gd_e e
    refine ite_e e (fun e => ?_) (fun e => ?_)
    · rw [← Option.some.inj e]; exact fr_rf _ _
    · obtain ⟨c2, ec2, e⟩ := bd_s e
      obtain ⟨c3, ec3, e⟩ := bd_s e
      obtain ⟨c4, ec4, e⟩ := bd_s e
      have e := gd_e e
      refine lt_e e fun h5 e qh5 => ?_
      have wh5 := fr_set (S := SJwy_measure) (fr_rf _ _) qh5 (by decide)
      rw [← Option.some.inj e]; exact wh5
def SJwy_lengthOf : List Nat := [20, 21, 22, 23, 24, 25]
theorem FJwy_lengthOf_L41_s (v1 v2 : Int32) (h0 : Hp) (v3 : Int32) (h : Hp) (o : ((Int32 × Hp) ⊕ (Int32 × Hp))) (e : Jwy_lengthOf_L41 v1 v2 v3 h = some o) (wh : Fm SJwy_lengthOf h0 h) : sm o (fun s => Fm SJwy_lengthOf h0 s.2) (fun t => Fm SJwy_lengthOf h0 t.2) := by
  refine ite_e e (fun e => ?_) (fun e => ?_)
  · refine ite_e e (fun e => ?_) (fun e => ?_)
    · have e := gd_e e
      refine lt_e e fun h2 e qh2 => ?_
      have wh2 := fr_set (S := SJwy_lengthOf) (wh) qh2 (by decide)
      rw [← Option.some.inj e]; exact wh2
    · have e := gd_e e
      refine lt_e e fun h3 e qh3 => ?_
      have wh3 := fr_set (S := SJwy_lengthOf) (wh) qh3 (by decide)
      rw [← Option.some.inj e]; exact wh3
  · rw [← Option.some.inj e]; exact wh
theorem FJwy_lengthOf_L41 (v1 v2 : Int32) (n : Nat) (s0 : Int32 × Hp) (o : (Int32 × Hp)) (e : loopN n (fun s => Jwy_lengthOf_L41 v1 v2 s.1 s.2) s0 = some o) : Fm SJwy_lengthOf (s0.2) o.2 := by
  refine loop_F (fun s => Jwy_lengthOf_L41 v1 v2 s.1 s.2) (fun s : Int32 × Hp => Fm SJwy_lengthOf (s0.2) (s.2)) (fun o : (Int32 × Hp) => Fm SJwy_lengthOf (s0.2) o.2) (fun s o e q => ?_) n s0 o e (fr_rf _ _)
  exact FJwy_lengthOf_L41_s v1 v2 _ s.1 s.2 o e q
theorem FJwy_lengthOf_L85_s (v1 v2 v3 : Int32) (h0 : Hp) (v4 : Int32) (h : Hp) (o : ((Int32 × Hp) ⊕ (Int32 × Hp))) (e : Jwy_lengthOf_L85 v1 v2 v3 v4 h = some o) (wh : Fm SJwy_lengthOf h0 h) : sm o (fun s => Fm SJwy_lengthOf h0 s.2) (fun t => Fm SJwy_lengthOf h0 t.2) := by
  refine ite_e e (fun e => ?_) (fun e => ?_)
  · rw [← Option.some.inj e]; exact wh
  · obtain ⟨c6, ec6, e⟩ := bd_s e
    obtain ⟨c7, ec7, e⟩ := bd_s e
    have wc7 := fr_tr (wh) (fr_sub (T := SJwy_lengthOf) (FJwy_needParts c6 h _ ec7) (by decide))
    rw [← Option.some.inj e]; exact wc7
theorem FJwy_lengthOf_L85 (v1 v2 v3 : Int32) (n : Nat) (s0 : Int32 × Hp) (o : (Int32 × Hp)) (e : loopN n (fun s => Jwy_lengthOf_L85 v1 v2 v3 s.1 s.2) s0 = some o) : Fm SJwy_lengthOf (s0.2) o.2 := by
  refine loop_F (fun s => Jwy_lengthOf_L85 v1 v2 v3 s.1 s.2) (fun s : Int32 × Hp => Fm SJwy_lengthOf (s0.2) (s.2)) (fun o : (Int32 × Hp) => Fm SJwy_lengthOf (s0.2) o.2) (fun s o e q => ?_) n s0 o e (fr_rf _ _)
  exact FJwy_lengthOf_L85_s v1 v2 v3 _ s.1 s.2 o e q
theorem FJwy_lengthOf_L112_s (v1 v2 v3 : Int32) (h0 : Hp) (v4 : Int32) (h : Hp) (o : ((Int32 × Hp) ⊕ (Int32 × Hp))) (e : Jwy_lengthOf_L112 v1 v2 v3 v4 h = some o) (wh : Fm SJwy_lengthOf h0 h) : sm o (fun s => Fm SJwy_lengthOf h0 s.2) (fun t => Fm SJwy_lengthOf h0 t.2) := by
  refine ite_e e (fun e => ?_) (fun e => ?_)
  · obtain ⟨c9, ec9, e⟩ := bd_s e
    obtain ⟨c10, ec10, e⟩ := bd_s e
    have wc10 := fr_tr (wh) (fr_sub (T := SJwy_lengthOf) (FJwy_measure c9 h _ ec10) (by decide))
    rw [← Option.some.inj e]; exact wc10
  · rw [← Option.some.inj e]; exact wh
theorem FJwy_lengthOf_L112 (v1 v2 v3 : Int32) (n : Nat) (s0 : Int32 × Hp) (o : (Int32 × Hp)) (e : loopN n (fun s => Jwy_lengthOf_L112 v1 v2 v3 s.1 s.2) s0 = some o) : Fm SJwy_lengthOf (s0.2) o.2 := by
  refine loop_F (fun s => Jwy_lengthOf_L112 v1 v2 v3 s.1 s.2) (fun s : Int32 × Hp => Fm SJwy_lengthOf (s0.2) (s.2)) (fun o : (Int32 × Hp) => Fm SJwy_lengthOf (s0.2) o.2) (fun s o e q => ?_) n s0 o e (fr_rf _ _)
  exact FJwy_lengthOf_L112_s v1 v2 v3 _ s.1 s.2 o e q
theorem FJwy_lengthOf (v1 : Int32) (h : Hp) (o : Int32 × Hp) (e : Jwy_lengthOf v1 h = some o) : Fm SJwy_lengthOf h o.2 := by
  obtain ⟨c1, ec1, e⟩ := bd_s e
  refine ite_e e (fun e => ?_) (fun e => ?_)
  · refine ite_e e (fun e => ?_) (fun e => ?_)
    · rw [← Option.some.inj e]; exact fr_rf _ _
    · have e := gd_e e
      rw [← Option.some.inj e]; exact fr_rf _ _
  · have e := gd_e e
    refine ite_e e (fun e => ?_) (fun e => ?_)
    · refine ite_e e (fun e => ?_) (fun e => ?_)
      · rw [← Option.some.inj e]; exact fr_rf _ _
      · have e := gd_e e
        rw [← Option.some.inj e]; exact fr_rf _ _
    · obtain ⟨t4x, et4, e⟩ := bd_s e
      have qt4 := FJwy_lengthOf_L41 v1 c1 1000000 (0, h) _ et4
      skip
      skip
      have wt4 := fr_tr (fr_rf _ _) qt4
      obtain ⟨c5, ec5, e⟩ := bd_s e
      obtain ⟨t8x, et8, e⟩ := bd_s e
      have qt8 := FJwy_lengthOf_L85 v1 c1 c5 1000000 (c5 - (1 : Int32), t4x.2) _ et8
      skip
      skip
      have wt8 := fr_tr (wt4) qt8
      obtain ⟨t11x, et11, e⟩ := bd_s e
      have qt11 := FJwy_lengthOf_L112 v1 c1 c5 1000000 (0, t8x.2) _ et11
      skip
      skip
      have wt11 := fr_tr (wt8) qt11
      have e := gd_e e
      rw [← Option.some.inj e]; exact wt11
def SJyn_cost : List Nat := [10, 11, 12, 13, 14, 15, 16, 17, 18, 19, 20, 21, 22, 23, 24, 25]
theorem FJyn_cost (v1 : Int32) (v2 : Int32) (h : Hp) (o : Int32 × Hp) (e : Jyn_cost v1 v2 h = some o) : Fm SJyn_cost h o.2 := by
  obtain ⟨c1, ec1, e⟩ := bd_s e
  refine ite_e e (fun e => ?_) (fun e => ?_)
  · rw [← Option.some.inj e]; exact fr_rf _ _
  · obtain ⟨c2, ec2, e⟩ := bd_s e
    have wc2 := fr_tr (fr_rf _ _) (fr_sub (T := SJyn_cost) (FJyn_reckoned h _ ec2) (by decide))
    refine ite_e e (fun e => ?_) (fun e => ?_)
    · obtain ⟨c3, ec3, e⟩ := bd_s e
      rw [← Option.some.inj e]; exact wc2
    · refine ite_e e (fun e => ?_) (fun e => ?_)
      · obtain ⟨c4, ec4, e⟩ := bd_s e
        rw [← Option.some.inj e]; exact wc2
      · refine ite_e e (fun e => ?_) (fun e => ?_)
        · obtain ⟨c5, ec5, e⟩ := bd_s e
          have wc5 := fr_tr (wc2) (fr_sub (T := SJyn_cost) (FJwy_partOf v1 0 c2 _ ec5) (by decide))
          rw [← Option.some.inj e]; exact wc5
        · refine ite_e e (fun e => ?_) (fun e => ?_)
          · obtain ⟨c6, ec6, e⟩ := bd_s e
            have wc6 := fr_tr (wc2) (fr_sub (T := SJyn_cost) (FJwy_partOf v1 1 c2 _ ec6) (by decide))
            rw [← Option.some.inj e]; exact wc6
          · refine ite_e e (fun e => ?_) (fun e => ?_)
            · obtain ⟨c7, ec7, e⟩ := bd_s e
              have wc7 := fr_tr (wc2) (fr_sub (T := SJyn_cost) (FJwy_partOf v1 2 c2 _ ec7) (by decide))
              rw [← Option.some.inj e]; exact wc7
            · refine ite_e e (fun e => ?_) (fun e => ?_)
              · obtain ⟨c8, ec8, e⟩ := bd_s e
                have wc8 := fr_tr (wc2) (fr_sub (T := SJyn_cost) (FJwy_lengthOf v1 c2 _ ec8) (by decide))
                rw [← Option.some.inj e]; exact wc8
              · rw [← Option.some.inj e]; exact wc2
def SJm_cost : List Nat := [37, 46, 47, 48, 49, 50, 51]
theorem FJm_cost (v1 : Int32) (v2 : Int32) (h : Hp) (o : Int32 × Hp) (e : Jm_cost v1 v2 h = some o) : Fm SJm_cost h o.2 := by
  obtain ⟨c1, ec1, e⟩ := bd_s e
  refine ite_e e (fun e => ?_) (fun e => ?_)
  · rw [← Option.some.inj e]; exact fr_rf _ _
  · obtain ⟨c2, ec2, e⟩ := bd_s e
    refine ite_e e (fun e => ?_) (fun e => ?_)
    · rw [← Option.some.inj e]; exact fr_rf _ _
    · obtain ⟨c3, ec3, e⟩ := bd_s e
      have wc3 := fr_tr (fr_rf _ _) (fr_sub (T := SJm_cost) (FJm_layCosts h _ ec3) (by decide))
      refine ite_e e (fun e => ?_) (fun e => ?_)
      · have e := gd_e e
        rw [← Option.some.inj e]; exact wc3
      · have e := gd_e e
        refine ite_e e (fun e => ?_) (fun e => ?_)
        · have e := gd_e e
          rw [← Option.some.inj e]; exact wc3
        · refine ite_e e (fun e => ?_) (fun e => ?_)
          · have e := gd_e e
            rw [← Option.some.inj e]; exact wc3
          · have e := gd_e e
            refine ite_e e (fun e => ?_) (fun e => ?_)
            · rw [← Option.some.inj e]; exact wc3
            · refine ite_e e (fun e => ?_) (fun e => ?_)
              · have e := gd_e e
                rw [← Option.some.inj e]; exact wc3
              · have e := gd_e e
                rw [← Option.some.inj e]; exact wc3
def SJyn_spell : List Nat := [10, 11, 12, 13, 14, 15, 16, 17, 18, 19, 20, 21, 22, 23, 24, 25]
theorem FJyn_spell (v1 : Int32) (v2 : Int32) (h : Hp) (o : Int32 × Hp) (e : Jyn_spell v1 v2 h = some o) : Fm SJyn_spell h o.2 := by
  obtain ⟨c1, ec1, e⟩ := bd_s e
  refine ite_e e (fun e => ?_) (fun e => ?_)
  · rw [← Option.some.inj e]; exact fr_rf _ _
  · refine ite_e e (fun e => ?_) (fun e => ?_)
    · rw [← Option.some.inj e]; exact fr_rf _ _
    · obtain ⟨c2, ec2, e⟩ := bd_s e
      have wc2 := fr_tr (fr_rf _ _) (fr_sub (T := SJyn_spell) (FJyn_reckoned h _ ec2) (by decide))
      obtain ⟨c3, ec3, e⟩ := bd_s e
      have wc3 := fr_tr (wc2) (fr_sub (T := SJyn_spell) (FJwy_lengthOf v1 c2 _ ec3) (by decide))
      refine ite_e e (fun e => ?_) (fun e => ?_)
      · obtain ⟨c4, ec4, e⟩ := bd_s e
        rw [← Option.some.inj e]; exact wc3
      · rw [← Option.some.inj e]; exact wc3
def SJm_spell : List Nat := [37, 46, 47, 48, 49, 50, 51]
theorem FJm_spell (v1 : Int32) (v2 : Int32) (h : Hp) (o : Int32 × Hp) (e : Jm_spell v1 v2 h = some o) : Fm SJm_spell h o.2 := by
  obtain ⟨c1, ec1, e⟩ := bd_s e
  refine ite_e e (fun e => ?_) (fun e => ?_)
  · rw [← Option.some.inj e]; exact fr_rf _ _
  · refine ite_e e (fun e => ?_) (fun e => ?_)
    · rw [← Option.some.inj e]; exact fr_rf _ _
    · obtain ⟨c2, ec2, e⟩ := bd_s e
      have wc2 := fr_tr (fr_rf _ _) (fr_sub (T := SJm_spell) (FJm_layCosts h _ ec2) (by decide))
      have e := gd_e e
      refine ite_e e (fun e => ?_) (fun e => ?_)
      · rw [← Option.some.inj e]; exact wc2
      · have e := gd_e e
        refine ite_e e (fun e => ?_) (fun e => ?_)
        · obtain ⟨t4x, et4, e⟩ := bd_s e
          skip
          skip
          have e := gd_e e
          refine ite_e e (fun e => ?_) (fun e => ?_)
          · have e := gd_e e
            rw [← Option.some.inj e]; exact wc2
          · obtain ⟨c5, ec5, e⟩ := bd_s e
            rw [← Option.some.inj e]; exact wc2
        · rw [← Option.some.inj e]; exact wc2
def SJyn_costing : List Nat := [10, 11, 12, 13, 14, 15, 16, 17, 18, 19, 23, 25]
theorem FJyn_costing (v1 : Int32) (h : Hp) (o : Int32 × Hp) (e : Jyn_costing v1 h = some o) : Fm SJyn_costing h o.2 := by
  refine ite_e e (fun e => ?_) (fun e => ?_)
  · rw [← Option.some.inj e]; exact fr_rf _ _
  · obtain ⟨c1, ec1, e⟩ := bd_s e
    have wc1 := fr_tr (fr_rf _ _) (fr_sub (T := SJyn_costing) (FJyn_reckoned h _ ec1) (by decide))
    obtain ⟨c2, ec2, e⟩ := bd_s e
    rw [← Option.some.inj e]; exact wc1
def SJm_costing : List Nat := [37, 46, 47, 48, 49, 50, 51]
theorem FJm_costing (v1 : Int32) (h : Hp) (o : Int32 × Hp) (e : Jm_costing v1 h = some o) : Fm SJm_costing h o.2 := by
  refine ite_e e (fun e => ?_) (fun e => ?_)
  · rw [← Option.some.inj e]; exact fr_rf _ _
  · obtain ⟨c1, ec1, e⟩ := bd_s e
    have wc1 := fr_tr (fr_rf _ _) (fr_sub (T := SJm_costing) (FJm_layCosts h _ ec1) (by decide))
    obtain ⟨t2x, et2, e⟩ := bd_s e
    skip
    skip
    rw [← Option.some.inj e]; exact wc1
def SJm_isPlace : List Nat := [37, 43, 44]
theorem FJm_isPlace (v1 : Int32) (h : Hp) (o : Int32 × Hp) (e : Jm_isPlace v1 h = some o) : Fm SJm_isPlace h o.2 := by
  obtain ⟨c1, ec1, e⟩ := bd_s e
  have wc1 := fr_tr (fr_rf _ _) (fr_sub (T := SJm_isPlace) (FJm_layPlaces h _ ec1) (by decide))
  obtain ⟨c2, ec2, e⟩ := bd_s e
  have e := gd_e e
  rw [← Option.some.inj e]; exact wc1
def SJm_growRanks : List Nat := [37, 43, 44, 45]
theorem FJm_growRanks_L12_s (v1 v2 : Int32) (h0 : Hp) (v3 : Int32) (h : Hp) (o : ((Int32 × Hp) ⊕ (Int32 × Hp))) (e : Jm_growRanks_L12 v1 v2 v3 h = some o) (wh : Fm SJm_growRanks h0 h) : sm o (fun s => Fm SJm_growRanks h0 s.2) (fun t => Fm SJm_growRanks h0 t.2) := by
  refine ite_e e (fun e => ?_) (fun e => ?_)
  · have e := gd_e e
    refine ite_e e (fun e => ?_) (fun e => ?_)
    · have e := gd_e e
      have e := gd_e e
      obtain ⟨c1, ec1, e⟩ := bd_s e
      have wc1 := fr_tr (wh) (fr_sub (T := SJm_growRanks) (FJm_placeOf ((h 44 (Int32.toNatClampNeg v2)) &&& (h 43 (Int32.toNatClampNeg v3))) h _ ec1) (by decide))
      have e := gd_e e
      refine ite_e e (fun e => ?_) (fun e => ?_)
      · have e := gd_e e
        refine lt_e e fun h2 e qh2 => ?_
        have wh2 := fr_set (S := SJm_growRanks) (wc1) qh2 (by decide)
        rw [← Option.some.inj e]; exact wh2
      · have e := gd_e e
        have e := gd_e e
        refine lt_e e fun h3 e qh3 => ?_
        have wh3 := fr_set (S := SJm_growRanks) (wc1) qh3 (by decide)
        rw [← Option.some.inj e]; exact wh3
    · rw [← Option.some.inj e]; exact wh
  · rw [← Option.some.inj e]; exact wh
theorem FJm_growRanks_L12 (v1 v2 : Int32) (n : Nat) (s0 : Int32 × Hp) (o : (Int32 × Hp)) (e : loopN n (fun s => Jm_growRanks_L12 v1 v2 s.1 s.2) s0 = some o) : Fm SJm_growRanks (s0.2) o.2 := by
  refine loop_F (fun s => Jm_growRanks_L12 v1 v2 s.1 s.2) (fun s : Int32 × Hp => Fm SJm_growRanks (s0.2) (s.2)) (fun o : (Int32 × Hp) => Fm SJm_growRanks (s0.2) o.2) (fun s o e q => ?_) n s0 o e (fr_rf _ _)
  exact FJm_growRanks_L12_s v1 v2 _ s.1 s.2 o e q
theorem FJm_growRanks_L2_s (v1 : Int32) (h0 : Hp) (v2 : Int32) (h : Hp) (o : ((Int32 × Hp) ⊕ (Int32 × Hp))) (e : Jm_growRanks_L2 v1 v2 h = some o) (wh : Fm SJm_growRanks h0 h) : sm o (fun s => Fm SJm_growRanks h0 s.2) (fun t => Fm SJm_growRanks h0 t.2) := by
  refine ite_e e (fun e => ?_) (fun e => ?_)
  · obtain ⟨t4x, et4, e⟩ := bd_s e
    have qt4 := FJm_growRanks_L12 v1 v2 1000000 (0, h) _ et4
    skip
    skip
    have wt4 := fr_tr (wh) qt4
    rw [← Option.some.inj e]; exact wt4
  · rw [← Option.some.inj e]; exact wh
theorem FJm_growRanks_L2 (v1 : Int32) (n : Nat) (s0 : Int32 × Hp) (o : (Int32 × Hp)) (e : loopN n (fun s => Jm_growRanks_L2 v1 s.1 s.2) s0 = some o) : Fm SJm_growRanks (s0.2) o.2 := by
  refine loop_F (fun s => Jm_growRanks_L2 v1 s.1 s.2) (fun s : Int32 × Hp => Fm SJm_growRanks (s0.2) (s.2)) (fun o : (Int32 × Hp) => Fm SJm_growRanks (s0.2) o.2) (fun s o e q => ?_) n s0 o e (fr_rf _ _)
  exact FJm_growRanks_L2_s v1 _ s.1 s.2 o e q
theorem FJm_growRanks (v1 : Int32) (h : Hp) (o : Hp) (e : Jm_growRanks v1 h = some o) : Fm SJm_growRanks h o := by
  obtain ⟨t5x, et5, e⟩ := bd_s e
  have qt5 := FJm_growRanks_L2 v1 1000000 (0, h) _ et5
  skip
  skip
  have wt5 := fr_tr (fr_rf _ _) qt5
  rw [← Option.some.inj e]; exact wt5
def SJm_rankOf : List Nat := [37, 43, 44, 45]
theorem FJm_rankOf_L2_s (v1 : Int32) (h0 : Hp) (v2 : Int32) (h : Hp) (o : ((Int32 × Hp) ⊕ (Int32 × Hp))) (e : Jm_rankOf_L2 v1 v2 h = some o) (wh : Fm SJm_rankOf h0 h) : sm o (fun s => Fm SJm_rankOf h0 s.2) (fun t => Fm SJm_rankOf h0 t.2) := by
  refine ite_e e (fun e => ?_) (fun e => ?_)
  · refine ite_e e (fun e => ?_) (fun e => ?_)
    · have e := gd_e e
      refine ite_e e (fun e => ?_) (fun e => ?_)
      · have e := gd_e e
        refine lt_e e fun h1 e qh1 => ?_
        have wh1 := fr_set (S := SJm_rankOf) (wh) qh1 (by decide)
        rw [← Option.some.inj e]; exact wh1
      · have e := gd_e e
        refine lt_e e fun h2 e qh2 => ?_
        have wh2 := fr_set (S := SJm_rankOf) (wh) qh2 (by decide)
        rw [← Option.some.inj e]; exact wh2
    · rw [← Option.some.inj e]; exact wh
  · rw [← Option.some.inj e]; exact wh
theorem FJm_rankOf_L2 (v1 : Int32) (n : Nat) (s0 : Int32 × Hp) (o : (Int32 × Hp)) (e : loopN n (fun s => Jm_rankOf_L2 v1 s.1 s.2) s0 = some o) : Fm SJm_rankOf (s0.2) o.2 := by
  refine loop_F (fun s => Jm_rankOf_L2 v1 s.1 s.2) (fun s : Int32 × Hp => Fm SJm_rankOf (s0.2) (s.2)) (fun o : (Int32 × Hp) => Fm SJm_rankOf (s0.2) o.2) (fun s o e q => ?_) n s0 o e (fr_rf _ _)
  exact FJm_rankOf_L2_s v1 _ s.1 s.2 o e q
theorem FJm_rankOf_L48_s (v1 : Int32) (h0 : Hp) (v2 : Int32) (h : Hp) (o : ((Int32 × Hp) ⊕ (Int32 × Hp))) (e : Jm_rankOf_L48 v1 v2 h = some o) (wh : Fm SJm_rankOf h0 h) : sm o (fun s => Fm SJm_rankOf h0 s.2) (fun t => Fm SJm_rankOf h0 t.2) := by
  refine ite_e e (fun e => ?_) (fun e => ?_)
  · refine ite_e e (fun e => ?_) (fun e => ?_)
    · obtain ⟨c4, ec4, e⟩ := bd_s e
      have wc4 := fr_tr (wh) (fr_sub (T := SJm_rankOf) (FJm_growRanks v2 h _ ec4) (by decide))
      rw [← Option.some.inj e]; exact wc4
    · rw [← Option.some.inj e]; exact wh
  · rw [← Option.some.inj e]; exact wh
theorem FJm_rankOf_L48 (v1 : Int32) (n : Nat) (s0 : Int32 × Hp) (o : (Int32 × Hp)) (e : loopN n (fun s => Jm_rankOf_L48 v1 s.1 s.2) s0 = some o) : Fm SJm_rankOf (s0.2) o.2 := by
  refine loop_F (fun s => Jm_rankOf_L48 v1 s.1 s.2) (fun s : Int32 × Hp => Fm SJm_rankOf (s0.2) (s.2)) (fun o : (Int32 × Hp) => Fm SJm_rankOf (s0.2) o.2) (fun s o e q => ?_) n s0 o e (fr_rf _ _)
  exact FJm_rankOf_L48_s v1 _ s.1 s.2 o e q
theorem FJm_rankOf (v1 : Int32) (h : Hp) (o : Int32 × Hp) (e : Jm_rankOf v1 h = some o) : Fm SJm_rankOf h o.2 := by
  obtain ⟨t3x, et3, e⟩ := bd_s e
  have qt3 := FJm_rankOf_L2 v1 1000000 (0, h) _ et3
  skip
  skip
  have wt3 := fr_tr (fr_rf _ _) qt3
  obtain ⟨t5x, et5, e⟩ := bd_s e
  have qt5 := FJm_rankOf_L48 v1 1000000 (0, t3x.2) _ et5
  skip
  skip
  have wt5 := fr_tr (wt3) qt5
  refine lt_e e fun h6 e qh6 => ?_
  have wh6 := fr_set (S := SJm_rankOf) (wt5) qh6 (by decide)
  have e := gd_e e
  rw [← Option.some.inj e]; exact wh6
def SJm_place : List Nat := [37, 43, 44, 45]
theorem FJm_place (v1 : Int32) (v2 : Int32) (h : Hp) (o : Int32 × Hp) (e : Jm_place v1 v2 h = some o) : Fm SJm_place h o.2 := by
  obtain ⟨c1, ec1, e⟩ := bd_s e
  have wc1 := fr_tr (fr_rf _ _) (fr_sub (T := SJm_place) (FJm_isPlace v1 h _ ec1) (by decide))
  refine ite_e e (fun e => ?_) (fun e => ?_)
  · rw [← Option.some.inj e]; exact wc1
  · refine ite_e e (fun e => ?_) (fun e => ?_)
    · have e := gd_e e
      rw [← Option.some.inj e]; exact wc1
    · refine ite_e e (fun e => ?_) (fun e => ?_)
      · obtain ⟨c2, ec2, e⟩ := bd_s e
        rw [← Option.some.inj e]; exact wc1
      · refine ite_e e (fun e => ?_) (fun e => ?_)
        · refine ite_e e (fun e => ?_) (fun e => ?_)
          · obtain ⟨c3, ec3, e⟩ := bd_s e
            rw [← Option.some.inj e]; exact wc1
          · obtain ⟨c4, ec4, e⟩ := bd_s e
            rw [← Option.some.inj e]; exact wc1
        · refine ite_e e (fun e => ?_) (fun e => ?_)
          · refine ite_e e (fun e => ?_) (fun e => ?_)
            · obtain ⟨c5, ec5, e⟩ := bd_s e
              rw [← Option.some.inj e]; exact wc1
            · obtain ⟨c6, ec6, e⟩ := bd_s e
              rw [← Option.some.inj e]; exact wc1
          · refine ite_e e (fun e => ?_) (fun e => ?_)
            · obtain ⟨c7, ec7, e⟩ := bd_s e
              have wc7 := fr_tr (wc1) (fr_sub (T := SJm_place) (FJm_rankOf v1 c1.2 _ ec7) (by decide))
              rw [← Option.some.inj e]; exact wc7
            · rw [← Option.some.inj e]; exact wc1
def SJm_beside : List Nat := [37, 43, 44]
theorem FJm_beside (v1 : Int32) (v2 : Int32) (v3 : Int32) (h : Hp) (o : Int32 × Hp) (e : Jm_beside v1 v2 v3 h = some o) : Fm SJm_beside h o.2 := by
  obtain ⟨c1, ec1, e⟩ := bd_s e
  have wc1 := fr_tr (fr_rf _ _) (fr_sub (T := SJm_beside) (FJm_isPlace v1 h _ ec1) (by decide))
  refine ite_e e (fun e => ?_) (fun e => ?_)
  · rw [← Option.some.inj e]; exact wc1
  · refine ite_e e (fun e => ?_) (fun e => ?_)
    · rw [← Option.some.inj e]; exact wc1
    · obtain ⟨c2, ec2, e⟩ := bd_s e
      rw [← Option.some.inj e]; exact wc1
def SJm_above : List Nat := [37, 43, 44]
theorem FJm_above (v1 : Int32) (v2 : Int32) (h : Hp) (o : Int32 × Hp) (e : Jm_above v1 v2 h = some o) : Fm SJm_above h o.2 := by
  obtain ⟨c1, ec1, e⟩ := bd_s e
  have wc1 := fr_tr (fr_rf _ _) (fr_sub (T := SJm_above) (FJm_beside v1 v2 1 h _ ec1) (by decide))
  rw [← Option.some.inj e]; exact wc1
def SJm_below : List Nat := [37, 43, 44]
theorem FJm_below (v1 : Int32) (v2 : Int32) (h : Hp) (o : Int32 × Hp) (e : Jm_below v1 v2 h = some o) : Fm SJm_below h o.2 := by
  obtain ⟨c1, ec1, e⟩ := bd_s e
  have wc1 := fr_tr (fr_rf _ _) (fr_sub (T := SJm_below) (FJm_beside v1 v2 0 h _ ec1) (by decide))
  rw [← Option.some.inj e]; exact wc1
def SJm_meet : List Nat := [37, 43, 44]
theorem FJm_meet (v1 : Int32) (v2 : Int32) (h : Hp) (o : Int32 × Hp) (e : Jm_meet v1 v2 h = some o) : Fm SJm_meet h o.2 := by
  obtain ⟨c1, ec1, e⟩ := bd_s e
  have wc1 := fr_tr (fr_rf _ _) (fr_sub (T := SJm_meet) (FJm_isPlace v1 h _ ec1) (by decide))
  refine ite_e e (fun e => ?_) (fun e => ?_)
  · rw [← Option.some.inj e]; exact wc1
  · obtain ⟨c2, ec2, e⟩ := bd_s e
    have wc2 := fr_tr (wc1) (fr_sub (T := SJm_meet) (FJm_isPlace v2 c1.2 _ ec2) (by decide))
    refine ite_e e (fun e => ?_) (fun e => ?_)
    · rw [← Option.some.inj e]; exact wc2
    · have e := gd_e e
      have e := gd_e e
      obtain ⟨c3, ec3, e⟩ := bd_s e
      obtain ⟨c4, ec4, e⟩ := bd_s e
      have wc4 := fr_tr (wc2) (fr_sub (T := SJm_meet) (FJm_placeOf c3 c2.2 _ ec4) (by decide))
      rw [← Option.some.inj e]; exact wc4
def SJm_join : List Nat := [37, 43, 44]
theorem FJm_join (v1 : Int32) (v2 : Int32) (h : Hp) (o : Int32 × Hp) (e : Jm_join v1 v2 h = some o) : Fm SJm_join h o.2 := by
  obtain ⟨c1, ec1, e⟩ := bd_s e
  have wc1 := fr_tr (fr_rf _ _) (fr_sub (T := SJm_join) (FJm_isPlace v1 h _ ec1) (by decide))
  refine ite_e e (fun e => ?_) (fun e => ?_)
  · rw [← Option.some.inj e]; exact wc1
  · obtain ⟨c2, ec2, e⟩ := bd_s e
    have wc2 := fr_tr (wc1) (fr_sub (T := SJm_join) (FJm_isPlace v2 c1.2 _ ec2) (by decide))
    refine ite_e e (fun e => ?_) (fun e => ?_)
    · rw [← Option.some.inj e]; exact wc2
    · have e := gd_e e
      have e := gd_e e
      obtain ⟨c3, ec3, e⟩ := bd_s e
      have wc3 := fr_tr (wc2) (fr_sub (T := SJm_join) (FJm_placeOf ((c2.2 44 (Int32.toNatClampNeg v1)) &&& (c2.2 44 (Int32.toNatClampNeg v2))) c2.2 _ ec3) (by decide))
      rw [← Option.some.inj e]; exact wc3
def SJm_relation : List Nat := [37, 43, 44]
theorem FJm_relation_J65 (v1 v2 v3 v4 v5 v6 v7 s0 s1 : Int32) (h0 : Hp) (h : Hp) (o : ((Int32 × Int32 × Int32) ⊕ (Int32 × Int32 × Int32))) (e : Jm_relation_J65 v1 v2 v3 v4 v5 v6 v7 s0 s1 h = some o) (wh : Fm SJm_relation h0 h) : sm o (fun s => Fm SJm_relation h0 h) (fun t => Fm SJm_relation h0 h) := by
  refine ite_e e (fun e => ?_) (fun e => ?_)
  · rw [← Option.some.inj e]; exact wh
  · have e := gd_e e
    rw [← Option.some.inj e]; exact wh
theorem FJm_relation (v1 : Int32) (v2 : Int32) (v3 : Int32) (h : Hp) (o : Int32 × Hp) (e : Jm_relation v1 v2 v3 h = some o) : Fm SJm_relation h o.2 := by
  obtain ⟨c1, ec1, e⟩ := bd_s e
  refine ite_e e (fun e => ?_) (fun e => ?_)
  · rw [← Option.some.inj e]; exact fr_rf _ _
  · obtain ⟨c2, ec2, e⟩ := bd_s e
    refine ite_e e (fun e => ?_) (fun e => ?_)
    · rw [← Option.some.inj e]; exact fr_rf _ _
    · obtain ⟨c3, ec3, e⟩ := bd_s e
      have wc3 := fr_tr (fr_rf _ _) (fr_sub (T := SJm_relation) (FJm_layTraits h _ ec3) (by decide))
      obtain ⟨t5x, et5, e⟩ := bd_s e
      skip
      skip
      refine ite_e e (fun e => ?_) (fun e => ?_)
      · rw [← Option.some.inj e]; exact wc3
      · obtain ⟨c6, ec6, e⟩ := bd_s e
        have wc6 := fr_tr (wc3) (fr_sub (T := SJm_relation) (FJm_placeOf t5x.2.1 c3 _ ec6) (by decide))
        rw [← Option.some.inj e]; exact wc6
def SJyn_put : List Nat := [29, 30, 31, 32, 33, 34]
theorem FJyn_put (v1 : Int32) (v2 : Int32) (v3 : Int32) (v4 : Int32) (h : Hp) (o : Int32 × Hp) (e : Jyn_put v1 v2 v3 v4 h = some o) : Fm SJyn_put h o.2 := by
  obtain ⟨c1, ec1, e⟩ := bd_s e
  refine ite_e e (fun e => ?_) (fun e => ?_)
  · rw [← Option.some.inj e]; exact fr_rf _ _
  · obtain ⟨c2, ec2, e⟩ := bd_s e
    refine ite_e e (fun e => ?_) (fun e => ?_)
    · rw [← Option.some.inj e]; exact fr_rf _ _
    · obtain ⟨c3, ec3, e⟩ := bd_s e
      refine ite_e e (fun e => ?_) (fun e => ?_)
      · rw [← Option.some.inj e]; exact fr_rf _ _
      · obtain ⟨c4, ec4, e⟩ := bd_s e
        refine ite_e e (fun e => ?_) (fun e => ?_)
        · rw [← Option.some.inj e]; exact fr_rf _ _
        · obtain ⟨c5, ec5, e⟩ := bd_s e
          refine ite_e e (fun e => ?_) (fun e => ?_)
          · obtain ⟨c6, ec6, e⟩ := bd_s e
            have wc6 := fr_tr (fr_rf _ _) (fr_sub (T := SJyn_put) (FJpa_push h _ ec6) (by decide))
            obtain ⟨c7, ec7, e⟩ := bd_s e
            obtain ⟨c8, ec8, e⟩ := bd_s e
            obtain ⟨c9, ec9, e⟩ := bd_s e
            obtain ⟨c10, ec10, e⟩ := bd_s e
            obtain ⟨c11, ec11, e⟩ := bd_s e
            obtain ⟨c12, ec12, e⟩ := bd_s e
            have wc12 := fr_tr (wc6) (fr_sub (T := SJyn_put) (FJsh_add c11 c6 _ ec12) (by decide))
            rw [← Option.some.inj e]; exact wc12
          · rw [← Option.some.inj e]; exact fr_rf _ _
def SJm_put : List Nat := [37, 38]
theorem FJm_put (v1 : Int32) (v2 : Int32) (v3 : Int32) (v4 : Int32) (h : Hp) (o : Int32 × Hp) (e : Jm_put v1 v2 v3 v4 h = some o) : Fm SJm_put h o.2 := by
  obtain ⟨c1, ec1, e⟩ := bd_s e
  refine ite_e e (fun e => ?_) (fun e => ?_)
  · rw [← Option.some.inj e]; exact fr_rf _ _
  · obtain ⟨c2, ec2, e⟩ := bd_s e
    refine ite_e e (fun e => ?_) (fun e => ?_)
    · rw [← Option.some.inj e]; exact fr_rf _ _
    · obtain ⟨c3, ec3, e⟩ := bd_s e
      refine ite_e e (fun e => ?_) (fun e => ?_)
      · rw [← Option.some.inj e]; exact fr_rf _ _
      · obtain ⟨c4, ec4, e⟩ := bd_s e
        refine ite_e e (fun e => ?_) (fun e => ?_)
        · rw [← Option.some.inj e]; exact fr_rf _ _
        · refine ite_e e (fun e => ?_) (fun e => ?_)
          · rw [← Option.some.inj e]; exact fr_rf _ _
          · have e := gd_e e
            have e := gd_e e
            have e := gd_e e
            have e := gd_e e
            obtain ⟨c5, ec5, e⟩ := bd_s e
            obtain ⟨c6, ec6, e⟩ := bd_s e
            have wc6 := fr_tr (fr_rf _ _) (fr_sub (T := SJm_put) (FJm_add c5 h _ ec6) (by decide))
            rw [← Option.some.inj e]; exact wc6
def SJsh_change : List Nat := [30]
theorem FJsh_change (v1 : Int32) (v2 : Int32) (h : Hp) (o : Hp) (e : Jsh_change v1 v2 h = some o) : Fm SJsh_change h o := by
  obtain ⟨c1, ec1, e⟩ := bd_s e
  refine ite_e e (fun e => ?_) (fun e => ?_)
  · rw [← Option.some.inj e]; exact fr_rf _ _
  · have e := gd_e e
    refine lt_e e fun h2 e qh2 => ?_
    have wh2 := fr_set (S := SJsh_change) (fr_rf _ _) qh2 (by decide)
    rw [← Option.some.inj e]; exact wh2
def SJyn_turn : List Nat := [30, 31, 32, 33, 34]
theorem FJyn_turn (v1 : Int32) (h : Hp) (o : Int32 × Hp) (e : Jyn_turn v1 h = some o) : Fm SJyn_turn h o.2 := by
  obtain ⟨c1, ec1, e⟩ := bd_s e
  refine ite_e e (fun e => ?_) (fun e => ?_)
  · rw [← Option.some.inj e]; exact fr_rf _ _
  · obtain ⟨c2, ec2, e⟩ := bd_s e
    have wc2 := fr_tr (fr_rf _ _) (fr_sub (T := SJyn_turn) (FJpa_push h _ ec2) (by decide))
    obtain ⟨c3, ec3, e⟩ := bd_s e
    obtain ⟨c4, ec4, e⟩ := bd_s e
    obtain ⟨c5, ec5, e⟩ := bd_s e
    have wc5 := fr_tr (wc2) (fr_sub (T := SJyn_turn) (FJsh_change v1 c4 c2 _ ec5) (by decide))
    rw [← Option.some.inj e]; exact wc5
def SJm_turn : List Nat := [37, 38]
theorem FJm_turn (v1 : Int32) (h : Hp) (o : Int32 × Hp) (e : Jm_turn v1 h = some o) : Fm SJm_turn h o.2 := by
  obtain ⟨c1, ec1, e⟩ := bd_s e
  refine ite_e e (fun e => ?_) (fun e => ?_)
  · rw [← Option.some.inj e]; exact fr_rf _ _
  · obtain ⟨c2, ec2, e⟩ := bd_s e
    have wc2 := fr_tr (fr_rf _ _) (fr_sub (T := SJm_turn) (FJm_remember h _ ec2) (by decide))
    have e := gd_e e
    obtain ⟨c3, ec3, e⟩ := bd_s e
    have e := gd_e e
    refine lt_e e fun h4 e qh4 => ?_
    have wh4 := fr_set (S := SJm_turn) (wc2) qh4 (by decide)
    have e := gd_e e
    rw [← Option.some.inj e]; exact wh4
def SJsh_remove : List Nat := [29, 30]
theorem FJsh_remove_L11_s (v1 : Int32) (h0 : Hp) (v2 : Int32) (h : Hp) (o : ((Int32 × Hp) ⊕ (Int32 × Hp))) (e : Jsh_remove_L11 v1 v2 h = some o) (wh : Fm SJsh_remove h0 h) : sm o (fun s => Fm SJsh_remove h0 s.2) (fun t => Fm SJsh_remove h0 t.2) := by
  refine ite_e e (fun e => ?_) (fun e => ?_)
  · refine ite_e e (fun e => ?_) (fun e => ?_)
    · have e := gd_e e
      have e := gd_e e
      refine lt_e e fun h2 e qh2 => ?_
      have wh2 := fr_set (S := SJsh_remove) (wh) qh2 (by decide)
      rw [← Option.some.inj e]; exact wh2
    · rw [← Option.some.inj e]; exact wh
  · rw [← Option.some.inj e]; exact wh
theorem FJsh_remove_L11 (v1 : Int32) (n : Nat) (s0 : Int32 × Hp) (o : (Int32 × Hp)) (e : loopN n (fun s => Jsh_remove_L11 v1 s.1 s.2) s0 = some o) : Fm SJsh_remove (s0.2) o.2 := by
  refine loop_F (fun s => Jsh_remove_L11 v1 s.1 s.2) (fun s : Int32 × Hp => Fm SJsh_remove (s0.2) (s.2)) (fun o : (Int32 × Hp) => Fm SJsh_remove (s0.2) o.2) (fun s o e q => ?_) n s0 o e (fr_rf _ _)
  exact FJsh_remove_L11_s v1 _ s.1 s.2 o e q
theorem FJsh_remove (v1 : Int32) (h : Hp) (o : Hp) (e : Jsh_remove v1 h = some o) : Fm SJsh_remove h o := by
  obtain ⟨c1, ec1, e⟩ := bd_s e
  refine ite_e e (fun e => ?_) (fun e => ?_)
  · rw [← Option.some.inj e]; exact fr_rf _ _
  · obtain ⟨t3x, et3, e⟩ := bd_s e
    have qt3 := FJsh_remove_L11 v1 1000000 (v1, h) _ et3
    skip
    skip
    have wt3 := fr_tr (fr_rf _ _) qt3
    refine lt_e e fun h4 e qh4 => ?_
    have wh4 := fr_set (S := SJsh_remove) (wt3) qh4 (by decide)
    refine lt_e e fun h5 e qh5 => ?_
    have wh5 := fr_set (S := SJsh_remove) (wh4) qh5 (by decide)
    rw [← Option.some.inj e]; exact wh5
def SJyn_take : List Nat := [29, 30, 31, 32, 33, 34]
theorem FJyn_take (v1 : Int32) (h : Hp) (o : Int32 × Hp) (e : Jyn_take v1 h = some o) : Fm SJyn_take h o.2 := by
  obtain ⟨c1, ec1, e⟩ := bd_s e
  refine ite_e e (fun e => ?_) (fun e => ?_)
  · rw [← Option.some.inj e]; exact fr_rf _ _
  · obtain ⟨c2, ec2, e⟩ := bd_s e
    have wc2 := fr_tr (fr_rf _ _) (fr_sub (T := SJyn_take) (FJpa_push h _ ec2) (by decide))
    obtain ⟨c3, ec3, e⟩ := bd_s e
    have wc3 := fr_tr (wc2) (fr_sub (T := SJyn_take) (FJsh_remove v1 c2 _ ec3) (by decide))
    obtain ⟨c4, ec4, e⟩ := bd_s e
    rw [← Option.some.inj e]; exact wc3
def SJm_take : List Nat := [37, 38]
theorem FJm_take_L56_s (v1 v2 : Int32) (h0 : Hp) (v3 : Int32) (h : Hp) (o : ((Int32 × Hp) ⊕ (Int32 × Hp))) (e : Jm_take_L56 v1 v2 v3 h = some o) (wh : Fm SJm_take h0 h) : sm o (fun s => Fm SJm_take h0 s.2) (fun t => Fm SJm_take h0 t.2) := by
  refine ite_e e (fun e => ?_) (fun e => ?_)
  · have e := gd_e e
    have e := gd_e e
    refine lt_e e fun h4 e qh4 => ?_
    have wh4 := fr_set (S := SJm_take) (wh) qh4 (by decide)
    rw [← Option.some.inj e]; exact wh4
  · rw [← Option.some.inj e]; exact wh
theorem FJm_take_L56 (v1 v2 : Int32) (n : Nat) (s0 : Int32 × Hp) (o : (Int32 × Hp)) (e : loopN n (fun s => Jm_take_L56 v1 v2 s.1 s.2) s0 = some o) : Fm SJm_take (s0.2) o.2 := by
  refine loop_F (fun s => Jm_take_L56 v1 v2 s.1 s.2) (fun s : Int32 × Hp => Fm SJm_take (s0.2) (s.2)) (fun o : (Int32 × Hp) => Fm SJm_take (s0.2) o.2) (fun s o e q => ?_) n s0 o e (fr_rf _ _)
  exact FJm_take_L56_s v1 v2 _ s.1 s.2 o e q
theorem FJm_take (v1 : Int32) (h : Hp) (o : Int32 × Hp) (e : Jm_take v1 h = some o) : Fm SJm_take h o.2 := by
  obtain ⟨c1, ec1, e⟩ := bd_s e
  refine ite_e e (fun e => ?_) (fun e => ?_)
  · rw [← Option.some.inj e]; exact fr_rf _ _
  · obtain ⟨c2, ec2, e⟩ := bd_s e
    have wc2 := fr_tr (fr_rf _ _) (fr_sub (T := SJm_take) (FJm_remember h _ ec2) (by decide))
    refine lt_e e fun h3 e qh3 => ?_
    have wh3 := fr_set (S := SJm_take) (wc2) qh3 (by decide)
    obtain ⟨t5x, et5, e⟩ := bd_s e
    have qt5 := FJm_take_L56 v1 ((c2 38 7) &&& (((1 : Int32) <<< (v1 &&& 31) : Int32) - (1 : Int32))) 1000000 (v1 + (1 : Int32), h3) _ et5
    skip
    skip
    have wt5 := fr_tr (wh3) qt5
    refine lt_e e fun h6 e qh6 => ?_
    have wh6 := fr_set (S := SJm_take) (wt5) qh6 (by decide)
    rw [← Option.some.inj e]; exact wh6
def SJsh_choose : List Nat := [29]
theorem FJsh_choose (v1 : Int32) (h : Hp) (o : Hp) (e : Jsh_choose v1 h = some o) : Fm SJsh_choose h o := by
  refine lt_e e fun h1 e qh1 => ?_
  have wh1 := fr_set (S := SJsh_choose) (fr_rf _ _) qh1 (by decide)
  rw [← Option.some.inj e]; exact wh1
def SJyn_base : List Nat := [29, 31, 32, 33, 34]
theorem FJyn_base (v1 : Int32) (h : Hp) (o : Int32 × Hp) (e : Jyn_base v1 h = some o) : Fm SJyn_base h o.2 := by
  obtain ⟨c1, ec1, e⟩ := bd_s e
  refine ite_e e (fun e => ?_) (fun e => ?_)
  · obtain ⟨c2, ec2, e⟩ := bd_s e
    have wc2 := fr_tr (fr_rf _ _) (fr_sub (T := SJyn_base) (FJpa_push h _ ec2) (by decide))
    obtain ⟨c3, ec3, e⟩ := bd_s e
    have wc3 := fr_tr (wc2) (fr_sub (T := SJyn_base) (FJsh_choose v1 c2 _ ec3) (by decide))
    obtain ⟨c4, ec4, e⟩ := bd_s e
    rw [← Option.some.inj e]; exact wc3
  · rw [← Option.some.inj e]; exact fr_rf _ _
def SJm_base : List Nat := [37, 38, 43]
theorem FJm_base (v1 : Int32) (h : Hp) (o : Int32 × Hp) (e : Jm_base v1 h = some o) : Fm SJm_base h o.2 := by
  obtain ⟨c1, ec1, e⟩ := bd_s e
  refine ite_e e (fun e => ?_) (fun e => ?_)
  · rw [← Option.some.inj e]; exact fr_rf _ _
  · obtain ⟨c2, ec2, e⟩ := bd_s e
    have wc2 := fr_tr (fr_rf _ _) (fr_sub (T := SJm_base) (FJm_remember h _ ec2) (by decide))
    refine lt_e e fun h3 e qh3 => ?_
    have wh3 := fr_set (S := SJm_base) (wc2) qh3 (by decide)
    obtain ⟨c4, ec4, e⟩ := bd_s e
    have wc4 := fr_tr (wh3) (fr_sub (T := SJm_base) (FJm_common (-1) h3 _ ec4) (by decide))
    rw [← Option.some.inj e]; exact wc4
def SJyn_draw : List Nat := [0]
theorem FJyn_draw (v1 : Int32) (h : Hp) (o : Int32 × Hp) (e : Jyn_draw v1 h = some o) : Fm SJyn_draw h o.2 := by
  refine lt_e e fun h1 e qh1 => ?_
  have wh1 := fr_set (S := SJyn_draw) (fr_rf _ _) qh1 (by decide)
  refine ite_e e (fun e => ?_) (fun e => ?_)
  · rw [← Option.some.inj e]; exact wh1
  · have e := gd_e e
    rw [← Option.some.inj e]; exact wh1
def SJyn_drift : List Nat := [0, 29, 30, 31, 32, 33, 34]
theorem FJyn_drift_L16_s (v1 : Int32) (h0 : Hp) (v2 : Int32) (h : Hp) (o : ((Int32 × Hp) ⊕ (Int32 × Hp))) (e : Jyn_drift_L16 v1 v2 h = some o) (wh : Fm SJyn_drift h0 h) : sm o (fun s => Fm SJyn_drift h0 s.2) (fun t => Fm SJyn_drift h0 t.2) := by
  refine ite_e e (fun e => ?_) (fun e => ?_)
  · obtain ⟨c1, ec1, e⟩ := bd_s e
    refine ite_e e (fun e => ?_) (fun e => ?_)
    · obtain ⟨c2, ec2, e⟩ := bd_s e
      have wc2 := fr_tr (wh) (fr_sub (T := SJyn_drift) (FJpa_push h _ ec2) (by decide))
      obtain ⟨c3, ec3, e⟩ := bd_s e
      have wc3 := fr_tr (wc2) (fr_sub (T := SJyn_drift) (FJyn_draw 256 c2 _ ec3) (by decide))
      obtain ⟨c4, ec4, e⟩ := bd_s e
      have wc4 := fr_tr (wc3) (fr_sub (T := SJyn_drift) (FJsh_add c3.1 c3.2 _ ec4) (by decide))
      rw [← Option.some.inj e]; exact wc4
    · rw [← Option.some.inj e]; exact wh
  · rw [← Option.some.inj e]; exact wh
theorem FJyn_drift_L16 (v1 : Int32) (n : Nat) (s0 : Int32 × Hp) (o : (Int32 × Hp)) (e : loopN n (fun s => Jyn_drift_L16 v1 s.1 s.2) s0 = some o) : Fm SJyn_drift (s0.2) o.2 := by
  refine loop_F (fun s => Jyn_drift_L16 v1 s.1 s.2) (fun s : Int32 × Hp => Fm SJyn_drift (s0.2) (s.2)) (fun o : (Int32 × Hp) => Fm SJyn_drift (s0.2) o.2) (fun s o e q => ?_) n s0 o e (fr_rf _ _)
  exact FJyn_drift_L16_s v1 _ s.1 s.2 o e q
theorem FJyn_drift (v1 : Int32) (h : Hp) (o : Int32 × Hp) (e : Jyn_drift v1 h = some o) : Fm SJyn_drift h o.2 := by
  refine ite_e e (fun e => ?_) (fun e => ?_)
  · rw [← Option.some.inj e]; exact fr_rf _ _
  · refine ite_e e (fun e => ?_) (fun e => ?_)
    · rw [← Option.some.inj e]; exact fr_rf _ _
    · obtain ⟨t5x, et5, e⟩ := bd_s e
      have qt5 := FJyn_drift_L16 v1 1000000 (0, h) _ et5
      skip
      skip
      have wt5 := fr_tr (fr_rf _ _) qt5
      obtain ⟨c6, ec6, e⟩ := bd_s e
      rw [← Option.some.inj e]; exact wt5
def SJm_draw : List Nat := [37]
theorem FJm_draw (v1 : Int32) (h : Hp) (o : Int32 × Hp) (e : Jm_draw v1 h = some o) : Fm SJm_draw h o.2 := by
  refine lt_e e fun h1 e qh1 => ?_
  have wh1 := fr_set (S := SJm_draw) (fr_rf _ _) qh1 (by decide)
  have e := gd_e e
  rw [← Option.some.inj e]; exact wh1
def SJm_drift : List Nat := [37, 38]
theorem FJm_drift_L17_s (v1 : Int32) (h0 : Hp) (v2 : Int32) (h : Hp) (o : ((Int32 × Hp) ⊕ (Int32 × Hp))) (e : Jm_drift_L17 v1 v2 h = some o) (wh : Fm SJm_drift h0 h) : sm o (fun s => Fm SJm_drift h0 s.2) (fun t => Fm SJm_drift h0 t.2) := by
  refine ite_e e (fun e => ?_) (fun e => ?_)
  · refine ite_e e (fun e => ?_) (fun e => ?_)
    · obtain ⟨c2, ec2, e⟩ := bd_s e
      have wc2 := fr_tr (wh) (fr_sub (T := SJm_drift) (FJm_draw 256 h _ ec2) (by decide))
      obtain ⟨c3, ec3, e⟩ := bd_s e
      have wc3 := fr_tr (wc2) (fr_sub (T := SJm_drift) (FJm_add c2.1 c2.2 _ ec3) (by decide))
      rw [← Option.some.inj e]; exact wc3
    · rw [← Option.some.inj e]; exact wh
  · rw [← Option.some.inj e]; exact wh
theorem FJm_drift_L17 (v1 : Int32) (n : Nat) (s0 : Int32 × Hp) (o : (Int32 × Hp)) (e : loopN n (fun s => Jm_drift_L17 v1 s.1 s.2) s0 = some o) : Fm SJm_drift (s0.2) o.2 := by
  refine loop_F (fun s => Jm_drift_L17 v1 s.1 s.2) (fun s : Int32 × Hp => Fm SJm_drift (s0.2) (s.2)) (fun o : (Int32 × Hp) => Fm SJm_drift (s0.2) o.2) (fun s o e q => ?_) n s0 o e (fr_rf _ _)
  exact FJm_drift_L17_s v1 _ s.1 s.2 o e q
theorem FJm_drift (v1 : Int32) (h : Hp) (o : Int32 × Hp) (e : Jm_drift v1 h = some o) : Fm SJm_drift h o.2 := by
  obtain ⟨c1, ec1, e⟩ := bd_s e
  refine ite_e e (fun e => ?_) (fun e => ?_)
  · rw [← Option.some.inj e]; exact fr_rf _ _
  · obtain ⟨t4x, et4, e⟩ := bd_s e
    have qt4 := FJm_drift_L17 v1 1000000 (0, h) _ et4
    skip
    skip
    have wt4 := fr_tr (fr_rf _ _) qt4
    rw [← Option.some.inj e]; exact wt4
def SJsh_restart : List Nat := [29]
theorem FJsh_restart (v1 : Int32) (h : Hp) (o : Hp) (e : Jsh_restart v1 h = some o) : Fm SJsh_restart h o := by
  refine lt_e e fun h1 e qh1 => ?_
  have wh1 := fr_set (S := SJsh_restart) (fr_rf _ _) qh1 (by decide)
  refine lt_e e fun h2 e qh2 => ?_
  have wh2 := fr_set (S := SJsh_restart) (wh1) qh2 (by decide)
  rw [← Option.some.inj e]; exact wh2
def SJpa_load : List Nat := [29, 30]
theorem FJpa_load_L23_s (v1 : Int32) (h0 : Hp) (v3 : Int32) (h : Hp) (o : ((Int32 × Hp) ⊕ (Int32 × Hp))) (e : Jpa_load_L23 v1 v3 h = some o) (wh : Fm SJpa_load h0 h) : sm o (fun s => Fm SJpa_load h0 s.2) (fun t => Fm SJpa_load h0 t.2) := by
  have e := gd_e e
  refine ite_e e (fun e => ?_) (fun e => ?_)
  · refine ite_e e (fun e => ?_) (fun e => ?_)
    · have e := gd_e e
      obtain ⟨c2, ec2, e⟩ := bd_s e
      have wc2 := fr_tr (wh) (fr_sub (T := SJpa_load) (FJsh_add (h 34 (Int32.toNatClampNeg ((v1 * (6 : Int32)) + v3))) h _ ec2) (by decide))
      rw [← Option.some.inj e]; exact wc2
    · rw [← Option.some.inj e]; exact wh
  · rw [← Option.some.inj e]; exact wh
theorem FJpa_load_L23 (v1 : Int32) (n : Nat) (s0 : Int32 × Hp) (o : (Int32 × Hp)) (e : loopN n (fun s => Jpa_load_L23 v1 s.1 s.2) s0 = some o) : Fm SJpa_load (s0.2) o.2 := by
  refine loop_F (fun s => Jpa_load_L23 v1 s.1 s.2) (fun s : Int32 × Hp => Fm SJpa_load (s0.2) (s.2)) (fun o : (Int32 × Hp) => Fm SJpa_load (s0.2) o.2) (fun s o e q => ?_) n s0 o e (fr_rf _ _)
  exact FJpa_load_L23_s v1 _ s.1 s.2 o e q
theorem FJpa_load (v1 : Int32) (h : Hp) (o : Hp) (e : Jpa_load v1 h = some o) : Fm SJpa_load h o := by
  refine ite_e e (fun e => ?_) (fun e => ?_)
  · rw [← Option.some.inj e]; exact fr_rf _ _
  · refine ite_e e (fun e => ?_) (fun e => ?_)
    · have e := gd_e e
      obtain ⟨c1, ec1, e⟩ := bd_s e
      have wc1 := fr_tr (fr_rf _ _) (fr_sub (T := SJpa_load) (FJsh_restart (h 33 (Int32.toNatClampNeg v1)) h _ ec1) (by decide))
      obtain ⟨t3x, et3, e⟩ := bd_s e
      have qt3 := FJpa_load_L23 v1 1000000 (0, c1) _ et3
      skip
      skip
      have wt3 := fr_tr (wc1) qt3
      rw [← Option.some.inj e]; exact wt3
    · rw [← Option.some.inj e]; exact fr_rf _ _
def SJpa_goBackBy : List Nat := [29, 30, 31]
theorem FJpa_goBackBy (v1 : Int32) (h : Hp) (o : Int32 × Hp) (e : Jpa_goBackBy v1 h = some o) : Fm SJpa_goBackBy h o.2 := by
  refine ite_e e (fun e => ?_) (fun e => ?_)
  · rw [← Option.some.inj e]; exact fr_rf _ _
  · refine ite_e e (fun e => ?_) (fun e => ?_)
    · rw [← Option.some.inj e]; exact fr_rf _ _
    · refine lt_e e fun h1 e qh1 => ?_
      have wh1 := fr_set (S := SJpa_goBackBy) (fr_rf _ _) qh1 (by decide)
      refine lt_e e fun h2 e qh2 => ?_
      have wh2 := fr_set (S := SJpa_goBackBy) (wh1) qh2 (by decide)
      obtain ⟨c3, ec3, e⟩ := bd_s e
      have wc3 := fr_tr (wh2) (fr_sub (T := SJpa_goBackBy) (FJpa_load (h2 31 4) h2 _ ec3) (by decide))
      rw [← Option.some.inj e]; exact wc3
def SJyn_undo : List Nat := [29, 30, 31]
theorem FJyn_undo (v1 : Int32) (h : Hp) (o : Int32 × Hp) (e : Jyn_undo v1 h = some o) : Fm SJyn_undo h o.2 := by
  refine ite_e e (fun e => ?_) (fun e => ?_)
  · rw [← Option.some.inj e]; exact fr_rf _ _
  · refine ite_e e (fun e => ?_) (fun e => ?_)
    · rw [← Option.some.inj e]; exact fr_rf _ _
    · obtain ⟨c1, ec1, e⟩ := bd_s e
      have wc1 := fr_tr (fr_rf _ _) (fr_sub (T := SJyn_undo) (FJpa_goBackBy v1 h _ ec1) (by decide))
      refine ite_e e (fun e => ?_) (fun e => ?_)
      · rw [← Option.some.inj e]; exact wc1
      · obtain ⟨c2, ec2, e⟩ := bd_s e
        rw [← Option.some.inj e]; exact wc1
def SJm_undo : List Nat := [37, 38]
theorem FJm_undo_L29_s (v1 : Int32) (h0 : Hp) (v2 : Int32) (h : Hp) (o : ((Int32 × Hp) ⊕ (Int32 × Hp))) (e : Jm_undo_L29 v1 v2 h = some o) (wh : Fm SJm_undo h0 h) : sm o (fun s => Fm SJm_undo h0 s.2) (fun t => Fm SJm_undo h0 t.2) := by
  refine ite_e e (fun e => ?_) (fun e => ?_)
  · rw [← Option.some.inj e]; exact wh
  · obtain ⟨c2, ec2, e⟩ := bd_s e
    have wc2 := fr_tr (wh) (fr_sub (T := SJm_undo) (FJm_copyRow ((8 : Int32) * (v2 + v1)) ((8 : Int32) * v2) h _ ec2) (by decide))
    rw [← Option.some.inj e]; exact wc2
theorem FJm_undo_L29 (v1 : Int32) (n : Nat) (s0 : Int32 × Hp) (o : (Int32 × Hp)) (e : loopN n (fun s => Jm_undo_L29 v1 s.1 s.2) s0 = some o) : Fm SJm_undo (s0.2) o.2 := by
  refine loop_F (fun s => Jm_undo_L29 v1 s.1 s.2) (fun s : Int32 × Hp => Fm SJm_undo (s0.2) (s.2)) (fun o : (Int32 × Hp) => Fm SJm_undo (s0.2) o.2) (fun s o e q => ?_) n s0 o e (fr_rf _ _)
  exact FJm_undo_L29_s v1 _ s.1 s.2 o e q
theorem FJm_undo (v1 : Int32) (h : Hp) (o : Int32 × Hp) (e : Jm_undo v1 h = some o) : Fm SJm_undo h o.2 := by
  obtain ⟨c1, ec1, e⟩ := bd_s e
  refine ite_e e (fun e => ?_) (fun e => ?_)
  · rw [← Option.some.inj e]; exact fr_rf _ _
  · refine ite_e e (fun e => ?_) (fun e => ?_)
    · rw [← Option.some.inj e]; exact fr_rf _ _
    · obtain ⟨t3x, et3, e⟩ := bd_s e
      have qt3 := FJm_undo_L29 v1 1000000 (0, h) _ et3
      skip
      skip
      have wt3 := fr_tr (fr_rf _ _) qt3
      refine lt_e e fun h4 e qh4 => ?_
      have wh4 := fr_set (S := SJm_undo) (wt3) qh4 (by decide)
      refine lt_e e fun h5 e qh5 => ?_
      have wh5 := fr_set (S := SJm_undo) (wh4) qh5 (by decide)
      rw [← Option.some.inj e]; exact wh5
def SJbk_add : List Nat := [26, 27, 28]
theorem FJbk_add (v1 : Int32) (v2 : Int32) (h : Hp) (o : Int32 × Hp) (e : Jbk_add v1 v2 h = some o) : Fm SJbk_add h o.2 := by
  refine ite_e e (fun e => ?_) (fun e => ?_)
  · rw [← Option.some.inj e]; exact fr_rf _ _
  · refine ite_e e (fun e => ?_) (fun e => ?_)
    · have e := gd_e e
      refine lt_e e fun h1 e qh1 => ?_
      have wh1 := fr_set (S := SJbk_add) (fr_rf _ _) qh1 (by decide)
      have e := gd_e e
      refine lt_e e fun h2 e qh2 => ?_
      have wh2 := fr_set (S := SJbk_add) (wh1) qh2 (by decide)
      refine lt_e e fun h3 e qh3 => ?_
      have wh3 := fr_set (S := SJbk_add) (wh2) qh3 (by decide)
      rw [← Option.some.inj e]; exact wh3
    · rw [← Option.some.inj e]; exact fr_rf _ _
def SJyn_write : List Nat := [26, 27, 28]
theorem FJyn_write (v1 : Int32) (v2 : Int32) (h : Hp) (o : Int32 × Hp) (e : Jyn_write v1 v2 h = some o) : Fm SJyn_write h o.2 := by
  obtain ⟨c1, ec1, e⟩ := bd_s e
  refine ite_e e (fun e => ?_) (fun e => ?_)
  · rw [← Option.some.inj e]; exact fr_rf _ _
  · obtain ⟨c2, ec2, e⟩ := bd_s e
    have wc2 := fr_tr (fr_rf _ _) (fr_sub (T := SJyn_write) (FJbk_add v1 v2 h _ ec2) (by decide))
    refine ite_e e (fun e => ?_) (fun e => ?_)
    · rw [← Option.some.inj e]; exact wc2
    · obtain ⟨c3, ec3, e⟩ := bd_s e
      rw [← Option.some.inj e]; exact wc2
def SJm_write : List Nat := [37, 41, 42]
theorem FJm_write (v1 : Int32) (v2 : Int32) (h : Hp) (o : Int32 × Hp) (e : Jm_write v1 v2 h = some o) : Fm SJm_write h o.2 := by
  obtain ⟨c1, ec1, e⟩ := bd_s e
  refine ite_e e (fun e => ?_) (fun e => ?_)
  · rw [← Option.some.inj e]; exact fr_rf _ _
  · refine ite_e e (fun e => ?_) (fun e => ?_)
    · rw [← Option.some.inj e]; exact fr_rf _ _
    · have e := gd_e e
      refine lt_e e fun h2 e qh2 => ?_
      have wh2 := fr_set (S := SJm_write) (fr_rf _ _) qh2 (by decide)
      have e := gd_e e
      refine lt_e e fun h3 e qh3 => ?_
      have wh3 := fr_set (S := SJm_write) (wh2) qh3 (by decide)
      refine lt_e e fun h4 e qh4 => ?_
      have wh4 := fr_set (S := SJm_write) (wh3) qh4 (by decide)
      rw [← Option.some.inj e]; exact wh4
def SJbk_clear : List Nat := [26]
theorem FJbk_clear (h : Hp) (o : Hp) (e : Jbk_clear h = some o) : Fm SJbk_clear h o := by
  refine lt_e e fun h1 e qh1 => ?_
  have wh1 := fr_set (S := SJbk_clear) (fr_rf _ _) qh1 (by decide)
  rw [← Option.some.inj e]; exact wh1
def SJyn_tear : List Nat := [26]
theorem FJyn_tear (h : Hp) (o : Int32 × Hp) (e : Jyn_tear h = some o) : Fm SJyn_tear h o.2 := by
  obtain ⟨c1, ec1, e⟩ := bd_s e
  obtain ⟨c2, ec2, e⟩ := bd_s e
  have wc2 := fr_tr (fr_rf _ _) (fr_sub (T := SJyn_tear) (FJbk_clear h _ ec2) (by decide))
  rw [← Option.some.inj e]; exact wc2
def SJm_tear : List Nat := [37]
theorem FJm_tear (h : Hp) (o : Int32 × Hp) (e : Jm_tear h = some o) : Fm SJm_tear h o.2 := by
  refine lt_e e fun h1 e qh1 => ?_
  have wh1 := fr_set (S := SJm_tear) (fr_rf _ _) qh1 (by decide)
  rw [← Option.some.inj e]; exact wh1
def SJyn_seed : List Nat := [0]
theorem FJyn_seed (v1 : Int32) (h : Hp) (o : Int32 × Hp) (e : Jyn_seed v1 h = some o) : Fm SJyn_seed h o.2 := by
  refine ite_e e (fun e => ?_) (fun e => ?_)
  · rw [← Option.some.inj e]; exact fr_rf _ _
  · refine lt_e e fun h1 e qh1 => ?_
    have wh1 := fr_set (S := SJyn_seed) (fr_rf _ _) qh1 (by decide)
    rw [← Option.some.inj e]; exact wh1
def SJm_seed : List Nat := [37]
theorem FJm_seed (v1 : Int32) (h : Hp) (o : Int32 × Hp) (e : Jm_seed v1 h = some o) : Fm SJm_seed h o.2 := by
  refine ite_e e (fun e => ?_) (fun e => ?_)
  · rw [← Option.some.inj e]; exact fr_rf _ _
  · refine lt_e e fun h1 e qh1 => ?_
    have wh1 := fr_set (S := SJm_seed) (fr_rf _ _) qh1 (by decide)
    rw [← Option.some.inj e]; exact wh1
def SJpa_saveImage : List Nat := [31, 32, 33, 34]
theorem FJpa_saveImage (v1 : Int32) (h : Hp) (o : Hp) (e : Jpa_saveImage v1 h = some o) : Fm SJpa_saveImage h o := by
  obtain ⟨c1, ec1, e⟩ := bd_s e
  have wc1 := fr_tr (fr_rf _ _) (fr_sub (T := SJpa_saveImage) (FJpa_save ((16 : Int32) + v1) h _ ec1) (by decide))
  refine lt_e e fun h2 e qh2 => ?_
  have wh2 := fr_set (S := SJpa_saveImage) (wc1) qh2 (by decide)
  rw [← Option.some.inj e]; exact wh2
def SJyn_keep : List Nat := [31, 32, 33, 34, 35, 36]
theorem FJyn_keep (v1 : Int32) (h : Hp) (o : Int32 × Hp) (e : Jyn_keep v1 h = some o) : Fm SJyn_keep h o.2 := by
  refine ite_e e (fun e => ?_) (fun e => ?_)
  · rw [← Option.some.inj e]; exact fr_rf _ _
  · refine ite_e e (fun e => ?_) (fun e => ?_)
    · obtain ⟨c1, ec1, e⟩ := bd_s e
      have wc1 := fr_tr (fr_rf _ _) (fr_sub (T := SJyn_keep) (FJpa_saveImage v1 h _ ec1) (by decide))
      have e := gd_e e
      refine lt_e e fun h2 e qh2 => ?_
      have wh2 := fr_set (S := SJyn_keep) (wc1) qh2 (by decide)
      have e := gd_e e
      refine lt_e e fun h3 e qh3 => ?_
      have wh3 := fr_set (S := SJyn_keep) (wh2) qh3 (by decide)
      rw [← Option.some.inj e]; exact wh3
    · rw [← Option.some.inj e]; exact fr_rf _ _
def SJm_keep : List Nat := [37, 38, 39]
theorem FJm_keep (v1 : Int32) (h : Hp) (o : Int32 × Hp) (e : Jm_keep v1 h = some o) : Fm SJm_keep h o.2 := by
  obtain ⟨c1, ec1, e⟩ := bd_s e
  refine ite_e e (fun e => ?_) (fun e => ?_)
  · rw [← Option.some.inj e]; exact fr_rf _ _
  · obtain ⟨c2, ec2, e⟩ := bd_s e
    have wc2 := fr_tr (fr_rf _ _) (fr_sub (T := SJm_keep) (FJm_copyRow 0 ((136 : Int32) + ((8 : Int32) * v1)) h _ ec2) (by decide))
    have e := gd_e e
    refine lt_e e fun h3 e qh3 => ?_
    have wh3 := fr_set (S := SJm_keep) (wc2) qh3 (by decide)
    refine lt_e e fun h4 e qh4 => ?_
    have wh4 := fr_set (S := SJm_keep) (wh3) qh4 (by decide)
    refine lt_e e fun h5 e qh5 => ?_
    have wh5 := fr_set (S := SJm_keep) (wh4) qh5 (by decide)
    rw [← Option.some.inj e]; exact wh5
def SJpa_loadImage : List Nat := [29, 30, 31]
theorem FJpa_loadImage (v1 : Int32) (h : Hp) (o : Hp) (e : Jpa_loadImage v1 h = some o) : Fm SJpa_loadImage h o := by
  obtain ⟨c1, ec1, e⟩ := bd_s e
  have wc1 := fr_tr (fr_rf _ _) (fr_sub (T := SJpa_loadImage) (FJpa_load ((16 : Int32) + v1) h _ ec1) (by decide))
  refine lt_e e fun h2 e qh2 => ?_
  have wh2 := fr_set (S := SJpa_loadImage) (wc1) qh2 (by decide)
  rw [← Option.some.inj e]; exact wh2
def SJyn_goBack : List Nat := [0, 29, 30, 31]
theorem FJyn_goBack (v1 : Int32) (h : Hp) (o : Int32 × Hp) (e : Jyn_goBack v1 h = some o) : Fm SJyn_goBack h o.2 := by
  refine ite_e e (fun e => ?_) (fun e => ?_)
  · rw [← Option.some.inj e]; exact fr_rf _ _
  · refine ite_e e (fun e => ?_) (fun e => ?_)
    · have e := gd_e e
      refine ite_e e (fun e => ?_) (fun e => ?_)
      · rw [← Option.some.inj e]; exact fr_rf _ _
      · obtain ⟨c1, ec1, e⟩ := bd_s e
        have wc1 := fr_tr (fr_rf _ _) (fr_sub (T := SJyn_goBack) (FJpa_loadImage v1 h _ ec1) (by decide))
        have e := gd_e e
        refine lt_e e fun h2 e qh2 => ?_
        have wh2 := fr_set (S := SJyn_goBack) (wc1) qh2 (by decide)
        rw [← Option.some.inj e]; exact wh2
    · rw [← Option.some.inj e]; exact fr_rf _ _
def SJm_goBack : List Nat := [37, 38]
theorem FJm_goBack (v1 : Int32) (h : Hp) (o : Int32 × Hp) (e : Jm_goBack v1 h = some o) : Fm SJm_goBack h o.2 := by
  obtain ⟨c1, ec1, e⟩ := bd_s e
  refine ite_e e (fun e => ?_) (fun e => ?_)
  · rw [← Option.some.inj e]; exact fr_rf _ _
  · obtain ⟨c2, ec2, e⟩ := bd_s e
    refine ite_e e (fun e => ?_) (fun e => ?_)
    · rw [← Option.some.inj e]; exact fr_rf _ _
    · obtain ⟨c3, ec3, e⟩ := bd_s e
      have wc3 := fr_tr (fr_rf _ _) (fr_sub (T := SJm_goBack) (FJm_copyRow ((136 : Int32) + ((8 : Int32) * v1)) 0 h _ ec3) (by decide))
      have e := gd_e e
      refine lt_e e fun h4 e qh4 => ?_
      have wh4 := fr_set (S := SJm_goBack) (wc3) qh4 (by decide)
      refine lt_e e fun h5 e qh5 => ?_
      have wh5 := fr_set (S := SJm_goBack) (wh4) qh5 (by decide)
      refine lt_e e fun h6 e qh6 => ?_
      have wh6 := fr_set (S := SJm_goBack) (wh5) qh6 (by decide)
      rw [← Option.some.inj e]; exact wh6
