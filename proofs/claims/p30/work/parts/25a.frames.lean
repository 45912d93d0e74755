/-! What a method leaves as it was. (Written by wip/whole/gen3.py.) -/
def SJfm_init : List Nat := [1, 2, 3]
theorem FJfm_init (h : Hp) (o : Hp) (e : Jfm_init h = some o) : Fm SJfm_init h o := by
  refine lt_e e fun h1 e qh1 => ?_
  have wh1 := fr_new (S := SJfm_init) (fr_rf _ _) qh1 (by decide)
  refine lt_e e fun h2 e qh2 => ?_
  have wh2 := fr_new (S := SJfm_init) (wh1) qh2 (by decide)
  refine lt_e e fun h3 e qh3 => ?_
  have wh3 := fr_set (S := SJfm_init) (wh2) qh3 (by decide)
  refine lt_e e fun h4 e qh4 => ?_
  have wh4 := fr_set (S := SJfm_init) (wh3) qh4 (by decide)
  refine lt_e e fun h5 e qh5 => ?_
  have wh5 := fr_set (S := SJfm_init) (wh4) qh5 (by decide)
  rw [← Option.some.inj e]; exact wh5
def SJpl_findSets : List Nat := [6, 8]
theorem FJpl_findSets_L2_s (h0 : Hp) (v1 : Int32) (h : Hp) (o : ((Int32 × Hp) ⊕ (Int32 × Hp))) (e : Jpl_findSets_L2 v1 h = some o) (wh : Fm SJpl_findSets h0 h) : sm o (fun s => Fm SJpl_findSets h0 s.2) (fun t => Fm SJpl_findSets h0 t.2) := by
  refine ite_e e (fun e => ?_) (fun e => ?_)
  · have e := gd_e e
    refine lt_e e fun h1 e qh1 => ?_
    have wh1 := fr_set (S := SJpl_findSets) (wh) qh1 (by decide)
    rw [← Option.some.inj e]; exact wh1
  · rw [← Option.some.inj e]; exact wh
theorem FJpl_findSets_L2 (n : Nat) (s0 : Int32 × Hp) (o : (Int32 × Hp)) (e : loopN n (fun s => Jpl_findSets_L2 s.1 s.2) s0 = some o) : Fm SJpl_findSets (s0.2) o.2 := by
  refine loop_F (fun s => Jpl_findSets_L2 s.1 s.2) (fun s : Int32 × Hp => Fm SJpl_findSets (s0.2) (s.2)) (fun o : (Int32 × Hp) => Fm SJpl_findSets (s0.2) o.2) (fun s o e q => ?_) n s0 o e (fr_rf _ _)
  exact FJpl_findSets_L2_s _ s.1 s.2 o e q
theorem FJpl_findSets_L70_s (v2 v3 : Int32) (h0 : Hp) (v1 v4 : Int32) (h : Hp) (o : ((Int32 × Int32 × Hp) ⊕ (Int32 × Int32 × Hp))) (e : Jpl_findSets_L70 v2 v3 v1 v4 h = some o) (wh : Fm SJpl_findSets h0 h) : sm o (fun s => Fm SJpl_findSets h0 s.2.2) (fun t => Fm SJpl_findSets h0 t.2.2) := by
  refine ite_e e (fun e => ?_) (fun e => ?_)
  · have e := gd_e e
    have e := gd_e e
    refine ite_e e (fun e => ?_) (fun e => ?_)
    · refine ite_e e (fun e => ?_) (fun e => ?_)
      · have e := gd_e e
        have e := gd_e e
        refine lt_e e fun h5 e qh5 => ?_
        have wh5 := fr_set (S := SJpl_findSets) (wh) qh5 (by decide)
        have e := gd_e e
        refine lt_e e fun h6 e qh6 => ?_
        have wh6 := fr_set (S := SJpl_findSets) (wh5) qh6 (by decide)
        rw [← Option.some.inj e]; exact wh6
      · rw [← Option.some.inj e]; exact wh
    · rw [← Option.some.inj e]; exact wh
  · rw [← Option.some.inj e]; exact wh
theorem FJpl_findSets_L70 (v2 v3 : Int32) (n : Nat) (s0 : Int32 × Int32 × Hp) (o : (Int32 × Int32 × Hp)) (e : loopN n (fun s => Jpl_findSets_L70 v2 v3 s.1 s.2.1 s.2.2) s0 = some o) : Fm SJpl_findSets (s0.2.2) o.2.2 := by
  refine loop_F (fun s => Jpl_findSets_L70 v2 v3 s.1 s.2.1 s.2.2) (fun s : Int32 × Int32 × Hp => Fm SJpl_findSets (s0.2.2) (s.2.2)) (fun o : (Int32 × Int32 × Hp) => Fm SJpl_findSets (s0.2.2) o.2.2) (fun s o e q => ?_) n s0 o e (fr_rf _ _)
  exact FJpl_findSets_L70_s v2 v3 _ s.1 s.2.1 s.2.2 o e q
theorem FJpl_findSets_L44_s (h0 : Hp) (v1 v2 : Int32) (h : Hp) (o : ((Int32 × Int32 × Hp) ⊕ (Int32 × Int32 × Hp))) (e : Jpl_findSets_L44 v1 v2 h = some o) (wh : Fm SJpl_findSets h0 h) : sm o (fun s => Fm SJpl_findSets h0 s.2.2) (fun t => Fm SJpl_findSets h0 t.2.2) := by
  refine ite_e e (fun e => ?_) (fun e => ?_)
  · refine ite_e e (fun e => ?_) (fun e => ?_)
    · have e := gd_e e
      obtain ⟨t7x, et7, e⟩ := bd_s e
      have qt7 := FJpl_findSets_L70 v2 ((h 6 (Int32.toNatClampNeg v2)) &&& (4095 : Int32)) 1000000 (v1, 0, h) _ et7
      skip
      skip
      have wt7 := fr_tr (wh) qt7
      rw [← Option.some.inj e]; exact wt7
    · rw [← Option.some.inj e]; exact wh
  · rw [← Option.some.inj e]; exact wh
theorem FJpl_findSets_L44 (n : Nat) (s0 : Int32 × Int32 × Hp) (o : (Int32 × Int32 × Hp)) (e : loopN n (fun s => Jpl_findSets_L44 s.1 s.2.1 s.2.2) s0 = some o) : Fm SJpl_findSets (s0.2.2) o.2.2 := by
  refine loop_F (fun s => Jpl_findSets_L44 s.1 s.2.1 s.2.2) (fun s : Int32 × Int32 × Hp => Fm SJpl_findSets (s0.2.2) (s.2.2)) (fun o : (Int32 × Int32 × Hp) => Fm SJpl_findSets (s0.2.2) o.2.2) (fun s o e q => ?_) n s0 o e (fr_rf _ _)
  exact FJpl_findSets_L44_s _ s.1 s.2.1 s.2.2 o e q
theorem FJpl_findSets (h : Hp) (o : Hp) (e : Jpl_findSets h = some o) : Fm SJpl_findSets h o := by
  obtain ⟨t2x, et2, e⟩ := bd_s e
  have qt2 := FJpl_findSets_L2 1000000 (0, h) _ et2
  skip
  skip
  have wt2 := fr_tr (fr_rf _ _) qt2
  refine lt_e e fun h3 e qh3 => ?_
  have wh3 := fr_set (S := SJpl_findSets) (wt2) qh3 (by decide)
  refine lt_e e fun h4 e qh4 => ?_
  have wh4 := fr_set (S := SJpl_findSets) (wh3) qh4 (by decide)
  obtain ⟨t8x, et8, e⟩ := bd_s e
  have qt8 := FJpl_findSets_L44 1000000 (1, 0, h4) _ et8
  skip
  skip
  have wt8 := fr_tr (wh4) qt8
  rw [← Option.some.inj e]; exact wt8
def SJpl_numberSets : List Nat := [4, 6, 7]
theorem FJpl_numberSets_L2_s (h0 : Hp) (v1 : Int32) (h : Hp) (o : ((Int32 × Hp) ⊕ (Int32 × Hp))) (e : Jpl_numberSets_L2 v1 h = some o) (wh : Fm SJpl_numberSets h0 h) : sm o (fun s => Fm SJpl_numberSets h0 s.2) (fun t => Fm SJpl_numberSets h0 t.2) := by
  refine ite_e e (fun e => ?_) (fun e => ?_)
  · have e := gd_e e
    refine lt_e e fun h1 e qh1 => ?_
    have wh1 := fr_set (S := SJpl_numberSets) (wh) qh1 (by decide)
    have e := gd_e e
    refine ite_e e (fun e => ?_) (fun e => ?_)
    · rw [← Option.some.inj e]; exact wh1
    · refine ite_e e (fun e => ?_) (fun e => ?_)
      · have e := gd_e e
        refine lt_e e fun h2 e qh2 => ?_
        have wh2 := fr_set (S := SJpl_numberSets) (wh1) qh2 (by decide)
        have e := gd_e e
        refine lt_e e fun h3 e qh3 => ?_
        have wh3 := fr_set (S := SJpl_numberSets) (wh2) qh3 (by decide)
        refine lt_e e fun h4 e qh4 => ?_
        have wh4 := fr_set (S := SJpl_numberSets) (wh3) qh4 (by decide)
        rw [← Option.some.inj e]; exact wh4
      · rw [← Option.some.inj e]; exact wh1
  · rw [← Option.some.inj e]; exact wh
theorem FJpl_numberSets_L2 (n : Nat) (s0 : Int32 × Hp) (o : (Int32 × Hp)) (e : loopN n (fun s => Jpl_numberSets_L2 s.1 s.2) s0 = some o) : Fm SJpl_numberSets (s0.2) o.2 := by
  refine loop_F (fun s => Jpl_numberSets_L2 s.1 s.2) (fun s : Int32 × Hp => Fm SJpl_numberSets (s0.2) (s.2)) (fun o : (Int32 × Hp) => Fm SJpl_numberSets (s0.2) o.2) (fun s o e q => ?_) n s0 o e (fr_rf _ _)
  exact FJpl_numberSets_L2_s _ s.1 s.2 o e q
theorem FJpl_numberSets (h : Hp) (o : Hp) (e : Jpl_numberSets h = some o) : Fm SJpl_numberSets h o := by
  obtain ⟨t5x, et5, e⟩ := bd_s e
  have qt5 := FJpl_numberSets_L2 1000000 (0, h) _ et5
  skip
  skip
  have wt5 := fr_tr (fr_rf _ _) qt5
  rw [← Option.some.inj e]; exact wt5
def SJpl_init : List Nat := [4, 5, 6, 7, 8]
theorem FJpl_init_L47_s (h0 : Hp) (v1 : Int32) (h : Hp) (o : ((Int32 × Hp) ⊕ (Int32 × Hp))) (e : Jpl_init_L47 v1 h = some o) (wh : Fm SJpl_init h0 h) : sm o (fun s => Fm SJpl_init h0 s.2) (fun t => Fm SJpl_init h0 t.2) := by
  refine ite_e e (fun e => ?_) (fun e => ?_)
  · obtain ⟨c6, ec6, e⟩ := bd_s e
    have e := gd_e e
    refine lt_e e fun h7 e qh7 => ?_
    have wh7 := fr_set (S := SJpl_init) (wh) qh7 (by decide)
    rw [← Option.some.inj e]; exact wh7
  · rw [← Option.some.inj e]; exact wh
theorem FJpl_init_L47 (n : Nat) (s0 : Int32 × Hp) (o : (Int32 × Hp)) (e : loopN n (fun s => Jpl_init_L47 s.1 s.2) s0 = some o) : Fm SJpl_init (s0.2) o.2 := by
  refine loop_F (fun s => Jpl_init_L47 s.1 s.2) (fun s : Int32 × Hp => Fm SJpl_init (s0.2) (s.2)) (fun o : (Int32 × Hp) => Fm SJpl_init (s0.2) o.2) (fun s o e q => ?_) n s0 o e (fr_rf _ _)
  exact FJpl_init_L47_s _ s.1 s.2 o e q
theorem FJpl_init (h : Hp) (o : Hp) (e : Jpl_init h = some o) : Fm SJpl_init h o := by
  refine lt_e e fun h1 e qh1 => ?_
  have wh1 := fr_new (S := SJpl_init) (fr_rf _ _) qh1 (by decide)
  refine lt_e e fun h2 e qh2 => ?_
  have wh2 := fr_new (S := SJpl_init) (wh1) qh2 (by decide)
  refine lt_e e fun h3 e qh3 => ?_
  have wh3 := fr_new (S := SJpl_init) (wh2) qh3 (by decide)
  refine lt_e e fun h4 e qh4 => ?_
  have wh4 := fr_new (S := SJpl_init) (wh3) qh4 (by decide)
  refine lt_e e fun h5 e qh5 => ?_
  have wh5 := fr_set (S := SJpl_init) (wh4) qh5 (by decide)
  obtain ⟨t8x, et8, e⟩ := bd_s e
  have qt8 := FJpl_init_L47 1000000 (0, h5) _ et8
  skip
  skip
  have wt8 := fr_tr (wh5) qt8
  obtain ⟨c9, ec9, e⟩ := bd_s e
  have wc9 := fr_tr (wt8) (fr_sub (T := SJpl_init) (FJpl_findSets t8x.2 _ ec9) (by decide))
  obtain ⟨c10, ec10, e⟩ := bd_s e
  have wc10 := fr_tr (wc9) (fr_sub (T := SJpl_init) (FJpl_numberSets c9 _ ec10) (by decide))
  rw [← Option.some.inj e]; exact wc10
def SJpu_init : List Nat := [18, 19]
theorem FJpu_init (h : Hp) (o : Hp) (e : Jpu_init h = some o) : Fm SJpu_init h o := by
  refine lt_e e fun h1 e qh1 => ?_
  have wh1 := fr_set (S := SJpu_init) (fr_rf _ _) qh1 (by decide)
  refine lt_e e fun h2 e qh2 => ?_
  have wh2 := fr_set (S := SJpu_init) (wh1) qh2 (by decide)
  refine lt_e e fun h3 e qh3 => ?_
  have wh3 := fr_set (S := SJpu_init) (wh2) qh3 (by decide)
  refine lt_e e fun h4 e qh4 => ?_
  have wh4 := fr_new (S := SJpu_init) (wh3) qh4 (by decide)
  refine lt_e e fun h5 e qh5 => ?_
  have wh5 := fr_set (S := SJpu_init) (wh4) qh5 (by decide)
  refine lt_e e fun h6 e qh6 => ?_
  have wh6 := fr_set (S := SJpu_init) (wh5) qh6 (by decide)
  rw [← Option.some.inj e]; exact wh6
def SJcs_init : List Nat := [10, 11, 12, 13, 14, 15, 16, 17, 18, 19]
theorem FJcs_init (h : Hp) (o : Hp) (e : Jcs_init h = some o) : Fm SJcs_init h o := by
  refine lt_e e fun h1 e qh1 => ?_
  have wh1 := fr_new (S := SJcs_init) (fr_rf _ _) qh1 (by decide)
  refine lt_e e fun h2 e qh2 => ?_
  have wh2 := fr_new (S := SJcs_init) (wh1) qh2 (by decide)
  refine lt_e e fun h3 e qh3 => ?_
  have wh3 := fr_new (S := SJcs_init) (wh2) qh3 (by decide)
  refine lt_e e fun h4 e qh4 => ?_
  have wh4 := fr_new (S := SJcs_init) (wh3) qh4 (by decide)
  refine lt_e e fun h5 e qh5 => ?_
  have wh5 := fr_new (S := SJcs_init) (wh4) qh5 (by decide)
  refine lt_e e fun h6 e qh6 => ?_
  have wh6 := fr_new (S := SJcs_init) (wh5) qh6 (by decide)
  refine lt_e e fun h7 e qh7 => ?_
  have wh7 := fr_new (S := SJcs_init) (wh6) qh7 (by decide)
  refine lt_e e fun h8 e qh8 => ?_
  have wh8 := fr_new (S := SJcs_init) (wh7) qh8 (by decide)
  obtain ⟨c9, ec9, e⟩ := bd_s e
  have wc9 := fr_tr (wh8) (fr_sub (T := SJcs_init) (FJpu_init h8 _ ec9) (by decide))
  refine lt_e e fun h10 e qh10 => ?_
  have wh10 := fr_set (S := SJcs_init) (wc9) qh10 (by decide)
  refine lt_e e fun h11 e qh11 => ?_
  have wh11 := fr_set (S := SJcs_init) (wh10) qh11 (by decide)
  refine lt_e e fun h12 e qh12 => ?_
  have wh12 := fr_set (S := SJcs_init) (wh11) qh12 (by decide)
  refine lt_e e fun h13 e qh13 => ?_
  have wh13 := fr_set (S := SJcs_init) (wh12) qh13 (by decide)
  refine lt_e e fun h14 e qh14 => ?_
  have wh14 := fr_set (S := SJcs_init) (wh13) qh14 (by decide)
  refine lt_e e fun h15 e qh15 => ?_
  have wh15 := fr_set (S := SJcs_init) (wh14) qh15 (by decide)
  refine lt_e e fun h16 e qh16 => ?_
  have wh16 := fr_set (S := SJcs_init) (wh15) qh16 (by decide)
  rw [← Option.some.inj e]; exact wh16
def SJpu_init_1 : List Nat := [20, 21]
theorem FJpu_init_1 (h : Hp) (o : Hp) (e : Jpu_init_1 h = some o) : Fm SJpu_init_1 h o := by
  refine lt_e e fun h1 e qh1 => ?_
  have wh1 := fr_set (S := SJpu_init_1) (fr_rf _ _) qh1 (by decide)
  refine lt_e e fun h2 e qh2 => ?_
  have wh2 := fr_set (S := SJpu_init_1) (wh1) qh2 (by decide)
  refine lt_e e fun h3 e qh3 => ?_
  have wh3 := fr_set (S := SJpu_init_1) (wh2) qh3 (by decide)
  refine lt_e e fun h4 e qh4 => ?_
  have wh4 := fr_new (S := SJpu_init_1) (wh3) qh4 (by decide)
  refine lt_e e fun h5 e qh5 => ?_
  have wh5 := fr_set (S := SJpu_init_1) (wh4) qh5 (by decide)
  refine lt_e e fun h6 e qh6 => ?_
  have wh6 := fr_set (S := SJpu_init_1) (wh5) qh6 (by decide)
  rw [← Option.some.inj e]; exact wh6
def SJwy_init : List Nat := [10, 11, 12, 13, 14, 15, 16, 17, 18, 19, 20, 21, 22, 23, 24, 25]
theorem FJwy_init (h : Hp) (o : Hp) (e : Jwy_init h = some o) : Fm SJwy_init h o := by
  refine lt_e e fun h1 e qh1 => ?_
  have wh1 := fr_new (S := SJwy_init) (fr_rf _ _) qh1 (by decide)
  obtain ⟨c2, ec2, e⟩ := bd_s e
  have wc2 := fr_tr (wh1) (fr_sub (T := SJwy_init) (FJcs_init h1 _ ec2) (by decide))
  refine lt_e e fun h3 e qh3 => ?_
  have wh3 := fr_new (S := SJwy_init) (wc2) qh3 (by decide)
  obtain ⟨c4, ec4, e⟩ := bd_s e
  have wc4 := fr_tr (wh3) (fr_sub (T := SJwy_init) (FJpu_init_1 h3 _ ec4) (by decide))
  refine lt_e e fun h5 e qh5 => ?_
  have wh5 := fr_new (S := SJwy_init) (wc4) qh5 (by decide)
  refine lt_e e fun h6 e qh6 => ?_
  have wh6 := fr_new (S := SJwy_init) (wh5) qh6 (by decide)
  refine lt_e e fun h7 e qh7 => ?_
  have wh7 := fr_new (S := SJwy_init) (wh6) qh7 (by decide)
  refine lt_e e fun h8 e qh8 => ?_
  have wh8 := fr_new (S := SJwy_init) (wh7) qh8 (by decide)
  rw [← Option.some.inj e]; exact wh8
def SJbk_init : List Nat := [26, 27, 28]
theorem FJbk_init (h : Hp) (o : Hp) (e : Jbk_init h = some o) : Fm SJbk_init h o := by
  refine lt_e e fun h1 e qh1 => ?_
  have wh1 := fr_new (S := SJbk_init) (fr_rf _ _) qh1 (by decide)
  refine lt_e e fun h2 e qh2 => ?_
  have wh2 := fr_new (S := SJbk_init) (wh1) qh2 (by decide)
  refine lt_e e fun h3 e qh3 => ?_
  have wh3 := fr_set (S := SJbk_init) (wh2) qh3 (by decide)
  rw [← Option.some.inj e]; exact wh3
def SJsh_init : List Nat := [29, 30]
theorem FJsh_init (h : Hp) (o : Hp) (e : Jsh_init h = some o) : Fm SJsh_init h o := by
  refine lt_e e fun h1 e qh1 => ?_
  have wh1 := fr_new (S := SJsh_init) (fr_rf _ _) qh1 (by decide)
  refine lt_e e fun h2 e qh2 => ?_
  have wh2 := fr_set (S := SJsh_init) (wh1) qh2 (by decide)
  refine lt_e e fun h3 e qh3 => ?_
  have wh3 := fr_set (S := SJsh_init) (wh2) qh3 (by decide)
  rw [← Option.some.inj e]; exact wh3
def SJpa_init : List Nat := [31, 32, 33, 34]
theorem FJpa_init (h : Hp) (o : Hp) (e : Jpa_init h = some o) : Fm SJpa_init h o := by
  refine lt_e e fun h1 e qh1 => ?_
  have wh1 := fr_new (S := SJpa_init) (fr_rf _ _) qh1 (by decide)
  refine lt_e e fun h2 e qh2 => ?_
  have wh2 := fr_new (S := SJpa_init) (wh1) qh2 (by decide)
  refine lt_e e fun h3 e qh3 => ?_
  have wh3 := fr_new (S := SJpa_init) (wh2) qh3 (by decide)
  refine lt_e e fun h4 e qh4 => ?_
  have wh4 := fr_set (S := SJpa_init) (wh3) qh4 (by decide)
  refine lt_e e fun h5 e qh5 => ?_
  have wh5 := fr_set (S := SJpa_init) (wh4) qh5 (by decide)
  rw [← Option.some.inj e]; exact wh5
def SJyn_init : List Nat := [0, 1, 2, 3, 4, 5, 6, 7, 8, 9, 10, 11, 12, 13, 14, 15, 16, 17, 18, 19, 20, 21, 22, 23, 24, 25, 26, 27, 28, 29, 30, 31, 32, 33, 34, 35, 36]
theorem FJyn_init (h : Hp) (o : Hp) (e : Jyn_init h = some o) : Fm SJyn_init h o := by
  refine lt_e e fun h1 e qh1 => ?_
  have wh1 := fr_new (S := SJyn_init) (fr_rf _ _) qh1 (by decide)
  obtain ⟨c2, ec2, e⟩ := bd_s e
  have wc2 := fr_tr (wh1) (fr_sub (T := SJyn_init) (FJfm_init h1 _ ec2) (by decide))
  refine lt_e e fun h3 e qh3 => ?_
  have wh3 := fr_new (S := SJyn_init) (wc2) qh3 (by decide)
  obtain ⟨c4, ec4, e⟩ := bd_s e
  have wc4 := fr_tr (wh3) (fr_sub (T := SJyn_init) (FJpl_init h3 _ ec4) (by decide))
  refine lt_e e fun h5 e qh5 => ?_
  have wh5 := fr_new (S := SJyn_init) (wc4) qh5 (by decide)
  obtain ⟨c6, ec6, e⟩ := bd_s e
  have wc6 := fr_tr (wh5) (fr_sub (T := SJyn_init) (FJwy_init h5 _ ec6) (by decide))
  refine lt_e e fun h7 e qh7 => ?_
  have wh7 := fr_new (S := SJyn_init) (wc6) qh7 (by decide)
  obtain ⟨c8, ec8, e⟩ := bd_s e
  have wc8 := fr_tr (wh7) (fr_sub (T := SJyn_init) (FJbk_init h7 _ ec8) (by decide))
  refine lt_e e fun h9 e qh9 => ?_
  have wh9 := fr_new (S := SJyn_init) (wc8) qh9 (by decide)
  obtain ⟨c10, ec10, e⟩ := bd_s e
  have wc10 := fr_tr (wh9) (fr_sub (T := SJyn_init) (FJsh_init h9 _ ec10) (by decide))
  refine lt_e e fun h11 e qh11 => ?_
  have wh11 := fr_new (S := SJyn_init) (wc10) qh11 (by decide)
  obtain ⟨c12, ec12, e⟩ := bd_s e
  have wc12 := fr_tr (wh11) (fr_sub (T := SJyn_init) (FJpa_init h11 _ ec12) (by decide))
  refine lt_e e fun h13 e qh13 => ?_
  have wh13 := fr_new (S := SJyn_init) (wc12) qh13 (by decide)
  refine lt_e e fun h14 e qh14 => ?_
  have wh14 := fr_new (S := SJyn_init) (wh13) qh14 (by decide)
  refine lt_e e fun h15 e qh15 => ?_
  have wh15 := fr_set (S := SJyn_init) (wh14) qh15 (by decide)
  refine lt_e e fun h16 e qh16 => ?_
  have wh16 := fr_set (S := SJyn_init) (wh15) qh16 (by decide)
  rw [← Option.some.inj e]; exact wh16
def SJm_init : List Nat := [37, 38, 39, 40, 41, 42, 43, 44, 45, 46, 47, 48, 49, 50, 51, 52]
theorem FJm_init (h : Hp) (o : Hp) (e : Jm_init h = some o) : Fm SJm_init h o := by
  refine lt_e e fun h1 e qh1 => ?_
  have wh1 := fr_new (S := SJm_init) (fr_rf _ _) qh1 (by decide)
  refine lt_e e fun h2 e qh2 => ?_
  have wh2 := fr_new (S := SJm_init) (wh1) qh2 (by decide)
  refine lt_e e fun h3 e qh3 => ?_
  have wh3 := fr_new (S := SJm_init) (wh2) qh3 (by decide)
  refine lt_e e fun h4 e qh4 => ?_
  have wh4 := fr_set (S := SJm_init) (wh3) qh4 (by decide)
  refine lt_e e fun h5 e qh5 => ?_
  have wh5 := fr_new (S := SJm_init) (wh4) qh5 (by decide)
  refine lt_e e fun h6 e qh6 => ?_
  have wh6 := fr_new (S := SJm_init) (wh5) qh6 (by decide)
  refine lt_e e fun h7 e qh7 => ?_
  have wh7 := fr_new (S := SJm_init) (wh6) qh7 (by decide)
  refine lt_e e fun h8 e qh8 => ?_
  have wh8 := fr_new (S := SJm_init) (wh7) qh8 (by decide)
  refine lt_e e fun h9 e qh9 => ?_
  have wh9 := fr_new (S := SJm_init) (wh8) qh9 (by decide)
  refine lt_e e fun h10 e qh10 => ?_
  have wh10 := fr_new (S := SJm_init) (wh9) qh10 (by decide)
  refine lt_e e fun h11 e qh11 => ?_
  have wh11 := fr_new (S := SJm_init) (wh10) qh11 (by decide)
  refine lt_e e fun h12 e qh12 => ?_
  have wh12 := fr_new (S := SJm_init) (wh11) qh12 (by decide)
  refine lt_e e fun h13 e qh13 => ?_
  have wh13 := fr_new (S := SJm_init) (wh12) qh13 (by decide)
  refine lt_e e fun h14 e qh14 => ?_
  have wh14 := fr_new (S := SJm_init) (wh13) qh14 (by decide)
  refine lt_e e fun h15 e qh15 => ?_
  have wh15 := fr_new (S := SJm_init) (wh14) qh15 (by decide)
  refine lt_e e fun h16 e qh16 => ?_
  have wh16 := fr_new (S := SJm_init) (wh15) qh16 (by decide)
  refine lt_e e fun h17 e qh17 => ?_
  have wh17 := fr_set (S := SJm_init) (wh16) qh17 (by decide)
  rw [← Option.some.inj e]; exact wh17
def SJfm_type : List Nat := [1, 2]
theorem FJfm_type (v1 : Int32) (h : Hp) (o : Int32 × Hp) (e : Jfm_type v1 h = some o) : Fm SJfm_type h o.2 := by
  refine ite_e e (fun e => ?_) (fun e => ?_)
  · rw [← Option.some.inj e]; exact fr_rf _ _
  · refine ite_e e (fun e => ?_) (fun e => ?_)
    · have e := gd_e e
      refine lt_e e fun h1 e qh1 => ?_
      have wh1 := fr_set (S := SJfm_type) (fr_rf _ _) qh1 (by decide)
      refine lt_e e fun h2 e qh2 => ?_
      have wh2 := fr_set (S := SJfm_type) (wh1) qh2 (by decide)
      rw [← Option.some.inj e]; exact wh2
    · rw [← Option.some.inj e]; exact fr_rf _ _
def SJyn_feed : List Nat := [1, 2]
theorem FJyn_feed (v1 : Int32) (h : Hp) (o : Int32 × Hp) (e : Jyn_feed v1 h = some o) : Fm SJyn_feed h o.2 := by
  refine ite_e e (fun e => ?_) (fun e => ?_)
  · rw [← Option.some.inj e]; exact fr_rf _ _
  · refine ite_e e (fun e => ?_) (fun e => ?_)
    · rw [← Option.some.inj e]; exact fr_rf _ _
    · obtain ⟨c1, ec1, e⟩ := bd_s e
      have wc1 := fr_tr (fr_rf _ _) (fr_sub (T := SJyn_feed) (FJfm_type v1 h _ ec1) (by decide))
      refine ite_e e (fun e => ?_) (fun e => ?_)
      · rw [← Option.some.inj e]; exact wc1
      · obtain ⟨c2, ec2, e⟩ := bd_s e
        rw [← Option.some.inj e]; exact wc1
def SJm_feed : List Nat := [37, 40]
theorem FJm_feed (v1 : Int32) (h : Hp) (o : Int32 × Hp) (e : Jm_feed v1 h = some o) : Fm SJm_feed h o.2 := by
  obtain ⟨c1, ec1, e⟩ := bd_s e
  refine ite_e e (fun e => ?_) (fun e => ?_)
  · rw [← Option.some.inj e]; exact fr_rf _ _
  · refine ite_e e (fun e => ?_) (fun e => ?_)
    · rw [← Option.some.inj e]; exact fr_rf _ _
    · have e := gd_e e
      refine lt_e e fun h2 e qh2 => ?_
      have wh2 := fr_set (S := SJm_feed) (fr_rf _ _) qh2 (by decide)
      refine lt_e e fun h3 e qh3 => ?_
      have wh3 := fr_set (S := SJm_feed) (wh2) qh3 (by decide)
      rw [← Option.some.inj e]; exact wh3
def SJfm_firstFault : List Nat := [1]
theorem FJfm_firstFault_J36 (v1 v2 v3 s0 : Int32) (h0 : Hp) (h : Hp) (o : ((Int32 × Int32) ⊕ ((Int32 × Int32) ⊕ (Int32 × Hp)))) (e : Jfm_firstFault_J36 v1 v2 v3 s0 h = some o) (wh : Fm SJfm_firstFault h0 h) : sm o (fun s => Fm SJfm_firstFault h0 h) (fun q => sm q (fun t => Fm SJfm_firstFault h0 h) (fun r => Fm SJfm_firstFault h0 r.2)) := by
  refine ite_e e (fun e => ?_) (fun e => ?_)
  · have e := gd_e e
    obtain ⟨c1, ec1, e⟩ := bd_s e
    rw [← Option.some.inj e]; exact wh
  · refine lt_e e fun h2 e qh2 => ?_
    have wh2 := fr_set (S := SJfm_firstFault) (wh) qh2 (by decide)
    rw [← Option.some.inj e]; exact wh2
theorem FJfm_firstFault_L4_s (v1 : Int32) (h0 : Hp) (v2 v3 : Int32) (h : Hp) (o : ((Int32 × Int32) ⊕ ((Int32 × Int32) ⊕ (Int32 × Hp)))) (e : Jfm_firstFault_L4 v1 h v2 v3 = some o) (wh : Fm SJfm_firstFault h0 h) : sm o (fun s => Fm SJfm_firstFault h0 h) (fun q => sm q (fun t => Fm SJfm_firstFault h0 h) (fun r => Fm SJfm_firstFault h0 r.2)) := by
  refine ite_e e (fun e => ?_) (fun e => ?_)
  · refine ite_e e (fun e => ?_) (fun e => ?_)
    · refine ite_e e (fun e => ?_) (fun e => ?_)
      · exact FJfm_firstFault_J36 v1 v2 v3 3 _ h o e (wh)
      · have e := gd_e e
        obtain ⟨c3, ec3, e⟩ := bd_s e
        refine ite_e e (fun e => ?_) (fun e => ?_)
        · have e := gd_e e
          obtain ⟨c4, ec4, e⟩ := bd_s e
          rw [← Option.some.inj e]; exact wh
        · refine lt_e e fun h5 e qh5 => ?_
          have wh5 := fr_set (S := SJfm_firstFault) (wh) qh5 (by decide)
          rw [← Option.some.inj e]; exact wh5
    · rw [← Option.some.inj e]; exact wh
  · rw [← Option.some.inj e]; exact wh
theorem FJfm_firstFault_L4 (v1 : Int32) (h : Hp) (n : Nat) (s0 : Int32 × Int32) (o : ((Int32 × Int32) ⊕ (Int32 × Hp))) (e : loopN n (fun s => Jfm_firstFault_L4 v1 h s.1 s.2) s0 = some o) : sm o (fun t => Fm SJfm_firstFault (h) h) (fun r => Fm SJfm_firstFault (h) r.2) := by
  refine loop_F (fun s => Jfm_firstFault_L4 v1 h s.1 s.2) (fun s : Int32 × Int32 => Fm SJfm_firstFault (h) (h)) (fun o : ((Int32 × Int32) ⊕ (Int32 × Hp)) => sm o (fun t => Fm SJfm_firstFault (h) h) (fun r => Fm SJfm_firstFault (h) r.2)) (fun s o e q => ?_) n s0 o e (fr_rf _ _)
  exact FJfm_firstFault_L4_s v1 _ s.1 s.2 h o e q
theorem FJfm_firstFault (v1 : Int32) (h : Hp) (o : Int32 × Hp) (e : Jfm_firstFault v1 h = some o) : Fm SJfm_firstFault h o.2 := by
  obtain ⟨t6x, et6, e⟩ := bd_s e
  have qt6 := FJfm_firstFault_L4 v1 h 1000000 (1, 0) _ et6
  rcases t6x with t6 | r7
  · skip
    dsimp only [sm] at e
    refine lt_e e fun h7 e qh7 => ?_
    have wh7 := fr_set (S := SJfm_firstFault) (fr_rf _ _) qh7 (by decide)
    refine ite_e e (fun e => ?_) (fun e => ?_)
    · rw [← Option.some.inj e]; exact wh7
    · rw [← Option.some.inj e]; exact wh7
  · rw [← Option.some.inj e]; exact fr_tr (fr_rf _ _) qt6
def SJfm_pop : List Nat := [1]
theorem FJfm_pop (h : Hp) (o : Int32 × Hp) (e : Jfm_pop h = some o) : Fm SJfm_pop h o.2 := by
  refine ite_e e (fun e => ?_) (fun e => ?_)
  · rw [← Option.some.inj e]; exact fr_rf _ _
  · refine ite_e e (fun e => ?_) (fun e => ?_)
    · rw [← Option.some.inj e]; exact fr_rf _ _
    · refine lt_e e fun h1 e qh1 => ?_
      have wh1 := fr_set (S := SJfm_pop) (fr_rf _ _) qh1 (by decide)
      have e := gd_e e
      rw [← Option.some.inj e]; exact wh1
def SJfm_push : List Nat := [1, 3]
theorem FJfm_push (v1 : Int32) (h : Hp) (o : Hp) (e : Jfm_push v1 h = some o) : Fm SJfm_push h o := by
  refine ite_e e (fun e => ?_) (fun e => ?_)
  · rw [← Option.some.inj e]; exact fr_rf _ _
  · refine ite_e e (fun e => ?_) (fun e => ?_)
    · have e := gd_e e
      refine lt_e e fun h1 e qh1 => ?_
      have wh1 := fr_set (S := SJfm_push) (fr_rf _ _) qh1 (by decide)
      refine lt_e e fun h2 e qh2 => ?_
      have wh2 := fr_set (S := SJfm_push) (wh1) qh2 (by decide)
      rw [← Option.some.inj e]; exact wh2
    · rw [← Option.some.inj e]; exact fr_rf _ _
def SJfm_value : List Nat := [1, 3]
theorem FJfm_value_J103 (v2 v3 v4 v5 v6 v7 s0 : Int32) (h0 : Hp) (h : Hp) (o : ((Int32 × Hp) ⊕ (Int32 × Hp))) (e : Jfm_value_J103 v2 v3 v4 v5 v6 v7 s0 h = some o) (wh : Fm SJfm_value h0 h) : sm o (fun s => Fm SJfm_value h0 s.2) (fun t => Fm SJfm_value h0 t.2) := by
  refine ite_e e (fun e => ?_) (fun e => ?_)
  · obtain ⟨c8, ec8, e⟩ := bd_s e
    obtain ⟨c9, ec9, e⟩ := bd_s e
    have wc9 := fr_tr (wh) (fr_sub (T := SJfm_value) (FJfm_push c8 h _ ec9) (by decide))
    rw [← Option.some.inj e]; exact wc9
  · obtain ⟨c10, ec10, e⟩ := bd_s e
    have wc10 := fr_tr (wh) (fr_sub (T := SJfm_value) (FJfm_push v5 h _ ec10) (by decide))
    rw [← Option.some.inj e]; exact wc10
theorem FJfm_value_J87 (v2 v3 v4 v5 v6 s0 : Int32) (h0 : Hp) (h : Hp) (o : ((Int32 × Hp) ⊕ (Int32 × Hp))) (e : Jfm_value_J87 v2 v3 v4 v5 v6 s0 h = some o) (wh : Fm SJfm_value h0 h) : sm o (fun s => Fm SJfm_value h0 s.2) (fun t => Fm SJfm_value h0 t.2) := by
  refine ite_e e (fun e => ?_) (fun e => ?_)
  · obtain ⟨c7, ec7, e⟩ := bd_s e
    have wc7 := fr_tr (wh) (fr_sub (T := SJfm_value) (FJfm_pop h _ ec7) (by decide))
    exact FJfm_value_J103 v2 v3 v4 v5 v6 s0 c7.1 _ c7.2 o e (wc7)
  · exact FJfm_value_J103 v2 v3 v4 v5 v6 s0 0 _ h o e (wh)
theorem FJfm_value_J71 (v2 v3 v4 v5 s0 : Int32) (h0 : Hp) (h : Hp) (o : ((Int32 × Hp) ⊕ (Int32 × Hp))) (e : Jfm_value_J71 v2 v3 v4 v5 s0 h = some o) (wh : Fm SJfm_value h0 h) : sm o (fun s => Fm SJfm_value h0 s.2) (fun t => Fm SJfm_value h0 t.2) := by
  refine ite_e e (fun e => ?_) (fun e => ?_)
  · obtain ⟨c6, ec6, e⟩ := bd_s e
    have wc6 := fr_tr (wh) (fr_sub (T := SJfm_value) (FJfm_pop h _ ec6) (by decide))
    exact FJfm_value_J87 v2 v3 v4 v5 s0 c6.1 _ c6.2 o e (wc6)
  · exact FJfm_value_J87 v2 v3 v4 v5 s0 0 _ h o e (wh)
theorem FJfm_value_J56 (v2 v3 v4 s0 : Int32) (h0 : Hp) (h : Hp) (o : ((Int32 × Hp) ⊕ (Int32 × Hp))) (e : Jfm_value_J56 v2 v3 v4 s0 h = some o) (wh : Fm SJfm_value h0 h) : sm o (fun s => Fm SJfm_value h0 s.2) (fun t => Fm SJfm_value h0 t.2) := by
  refine ite_e e (fun e => ?_) (fun e => ?_)
  · obtain ⟨c12, ec12, e⟩ := bd_s e
    have wc12 := fr_tr (wh) (fr_sub (T := SJfm_value) (FJfm_pop h _ ec12) (by decide))
    exact FJfm_value_J71 v2 v3 v4 s0 c12.1 _ c12.2 o e (wc12)
  · exact FJfm_value_J71 v2 v3 v4 s0 0 _ h o e (wh)
theorem FJfm_value_L17_s (h0 : Hp) (v2 : Int32) (h : Hp) (o : ((Int32 × Hp) ⊕ (Int32 × Hp))) (e : Jfm_value_L17 v2 h = some o) (wh : Fm SJfm_value h0 h) : sm o (fun s => Fm SJfm_value h0 s.2) (fun t => Fm SJfm_value h0 t.2) := by
  refine ite_e e (fun e => ?_) (fun e => ?_)
  · rw [← Option.some.inj e]; exact wh
  · have e := gd_e e
    obtain ⟨c2, ec2, e⟩ := bd_s e
    obtain ⟨c3, ec3, e⟩ := bd_s e
    refine ite_e e (fun e => ?_) (fun e => ?_)
    · obtain ⟨c4, ec4, e⟩ := bd_s e
      refine ite_e e (fun e => ?_) (fun e => ?_)
      · obtain ⟨c5, ec5, e⟩ := bd_s e
        have wc5 := fr_tr (wh) (fr_sub (T := SJfm_value) (FJfm_pop h _ ec5) (by decide))
        exact FJfm_value_J71 v2 (h 2 (Int32.toNatClampNeg v2)) c2 c4 c5.1 _ c5.2 o e (wc5)
      · exact FJfm_value_J71 v2 (h 2 (Int32.toNatClampNeg v2)) c2 c4 0 _ h o e (wh)
    · obtain ⟨c11, ec11, e⟩ := bd_s e
      exact FJfm_value_J56 v2 (h 2 (Int32.toNatClampNeg v2)) c2 c11 _ h o e (wh)
theorem FJfm_value_L17 (n : Nat) (s0 : Int32 × Hp) (o : (Int32 × Hp)) (e : loopN n (fun s => Jfm_value_L17 s.1 s.2) s0 = some o) : Fm SJfm_value (s0.2) o.2 := by
  refine loop_F (fun s => Jfm_value_L17 s.1 s.2) (fun s : Int32 × Hp => Fm SJfm_value (s0.2) (s.2)) (fun o : (Int32 × Hp) => Fm SJfm_value (s0.2) o.2) (fun s o e q => ?_) n s0 o e (fr_rf _ _)
  exact FJfm_value_L17_s _ s.1 s.2 o e q
theorem FJfm_value (h : Hp) (o : Int32 × Hp) (e : Jfm_value h = some o) : Fm SJfm_value h o.2 := by
  refine lt_e e fun h1 e qh1 => ?_
  have wh1 := fr_set (S := SJfm_value) (fr_rf _ _) qh1 (by decide)
  obtain ⟨t13x, et13, e⟩ := bd_s e
  have qt13 := FJfm_value_L17 1000000 ((if 60 < (h1 1 2) then 60 else (h1 1 2)) - (1 : Int32), h1) _ et13
  skip
  skip
  have wt13 := fr_tr (wh1) qt13
  obtain ⟨c14, ec14, e⟩ := bd_s e
  have wc14 := fr_tr (wt13) (fr_sub (T := SJfm_value) (FJfm_pop t13x.2 _ ec14) (by decide))
  rw [← Option.some.inj e]; exact wc14
def SJfm_clear : List Nat := [1]
theorem FJfm_clear (h : Hp) (o : Hp) (e : Jfm_clear h = some o) : Fm SJfm_clear h o := by
  refine lt_e e fun h1 e qh1 => ?_
  have wh1 := fr_set (S := SJfm_clear) (fr_rf _ _) qh1 (by decide)
  rw [← Option.some.inj e]; exact wh1
def SJpa_save : List Nat := [32, 33, 34]
theorem FJpa_save_L33_s (v1 : Int32) (h0 : Hp) (v3 : Int32) (h : Hp) (o : ((Int32 × Hp) ⊕ (Int32 × Hp))) (e : Jpa_save_L33 v1 v3 h = some o) (wh : Fm SJpa_save h0 h) : sm o (fun s => Fm SJpa_save h0 s.2) (fun t => Fm SJpa_save h0 t.2) := by
  refine ite_e e (fun e => ?_) (fun e => ?_)
  · obtain ⟨c5, ec5, e⟩ := bd_s e
    have e := gd_e e
    refine lt_e e fun h6 e qh6 => ?_
    have wh6 := fr_set (S := SJpa_save) (wh) qh6 (by decide)
    rw [← Option.some.inj e]; exact wh6
  · rw [← Option.some.inj e]; exact wh
theorem FJpa_save_L33 (v1 : Int32) (n : Nat) (s0 : Int32 × Hp) (o : (Int32 × Hp)) (e : loopN n (fun s => Jpa_save_L33 v1 s.1 s.2) s0 = some o) : Fm SJpa_save (s0.2) o.2 := by
  refine loop_F (fun s => Jpa_save_L33 v1 s.1 s.2) (fun s : Int32 × Hp => Fm SJpa_save (s0.2) (s.2)) (fun o : (Int32 × Hp) => Fm SJpa_save (s0.2) o.2) (fun s o e q => ?_) n s0 o e (fr_rf _ _)
  exact FJpa_save_L33_s v1 _ s.1 s.2 o e q
theorem FJpa_save (v1 : Int32) (h : Hp) (o : Hp) (e : Jpa_save v1 h = some o) : Fm SJpa_save h o := by
  refine ite_e e (fun e => ?_) (fun e => ?_)
  · rw [← Option.some.inj e]; exact fr_rf _ _
  · refine ite_e e (fun e => ?_) (fun e => ?_)
    · obtain ⟨c1, ec1, e⟩ := bd_s e
      have e := gd_e e
      refine lt_e e fun h2 e qh2 => ?_
      have wh2 := fr_set (S := SJpa_save) (fr_rf _ _) qh2 (by decide)
      obtain ⟨c3, ec3, e⟩ := bd_s e
      have e := gd_e e
      refine lt_e e fun h4 e qh4 => ?_
      have wh4 := fr_set (S := SJpa_save) (wh2) qh4 (by decide)
      obtain ⟨t7x, et7, e⟩ := bd_s e
      have qt7 := FJpa_save_L33 v1 1000000 (0, h4) _ et7
      skip
      skip
      have wt7 := fr_tr (wh4) qt7
      rw [← Option.some.inj e]; exact wt7
    · rw [← Option.some.inj e]; exact fr_rf _ _
def SJpa_push : List Nat := [31, 32, 33, 34]
theorem FJpa_push (h : Hp) (o : Hp) (e : Jpa_push h = some o) : Fm SJpa_push h o := by
  obtain ⟨c1, ec1, e⟩ := bd_s e
  have wc1 := fr_tr (fr_rf _ _) (fr_sub (T := SJpa_push) (FJpa_save (h 31 4) h _ ec1) (by decide))
  refine lt_e e fun h2 e qh2 => ?_
  have wh2 := fr_set (S := SJpa_push) (wc1) qh2 (by decide)
  refine lt_e e fun h3 e qh3 => ?_
  have wh3 := fr_set (S := SJpa_push) (wh2) qh3 (by decide)
  rw [← Option.some.inj e]; exact wh3
def SJsh_add : List Nat := [29, 30]
theorem FJsh_add (v1 : Int32) (h : Hp) (o : Int32 × Hp) (e : Jsh_add v1 h = some o) : Fm SJsh_add h o.2 := by
  refine ite_e e (fun e => ?_) (fun e => ?_)
  · rw [← Option.some.inj e]; exact fr_rf _ _
  · refine ite_e e (fun e => ?_) (fun e => ?_)
    · have e := gd_e e
      refine lt_e e fun h1 e qh1 => ?_
      have wh1 := fr_set (S := SJsh_add) (fr_rf _ _) qh1 (by decide)
      refine lt_e e fun h2 e qh2 => ?_
      have wh2 := fr_set (S := SJsh_add) (wh1) qh2 (by decide)
      rw [← Option.some.inj e]; exact wh2
    · rw [← Option.some.inj e]; exact fr_rf _ _
def SJyn_tell : List Nat := [0, 1, 3, 29, 30, 31, 32, 33, 34]
theorem FJyn_tell_J64 (v1 v2 s1 : Int32) (h0 : Hp) (h : Hp) (o : (Int32 × Hp)) (e : Jyn_tell_J64 v1 v2 s1 h = some o) (wh : Fm SJyn_tell h0 h) : Fm SJyn_tell h0 o.2 := by
  refine lt_e e fun h5 e qh5 => ?_
  have wh5 := fr_set (S := SJyn_tell) (wh) qh5 (by decide)
  obtain ⟨c6, ec6, e⟩ := bd_s e
  have wc6 := fr_tr (wh5) (fr_sub (T := SJyn_tell) (FJfm_clear h5 _ ec6) (by decide))
  refine ite_e e (fun e => ?_) (fun e => ?_)
  · obtain ⟨c7, ec7, e⟩ := bd_s e
    have wc7 := fr_tr (wc6) (fr_sub (T := SJyn_tell) (FJpa_push c6 _ ec7) (by decide))
    obtain ⟨c8, ec8, e⟩ := bd_s e
    have wc8 := fr_tr (wc7) (fr_sub (T := SJyn_tell) (FJsh_add v2 c7 _ ec8) (by decide))
    rw [← Option.some.inj e]; exact wc8
  · rw [← Option.some.inj e]; exact wc6
theorem FJyn_tell_J47 (v1 s0 : Int32) (h0 : Hp) (h : Hp) (o : (Int32 × Hp)) (e : Jyn_tell_J47 v1 s0 h = some o) (wh : Fm SJyn_tell h0 h) : Fm SJyn_tell h0 o.2 := by
  refine ite_e e (fun e => ?_) (fun e => ?_)
  · exact FJyn_tell_J64 v1 s0 (-1) _ h o e (wh)
  · obtain ⟨c9, ec9, e⟩ := bd_s e
    refine lt_e e fun h10 e qh10 => ?_
    have wh10 := fr_set (S := SJyn_tell) (wh) qh10 (by decide)
    obtain ⟨c11, ec11, e⟩ := bd_s e
    have wc11 := fr_tr (wh10) (fr_sub (T := SJyn_tell) (FJfm_clear h10 _ ec11) (by decide))
    refine ite_e e (fun e => ?_) (fun e => ?_)
    · obtain ⟨c12, ec12, e⟩ := bd_s e
      have wc12 := fr_tr (wc11) (fr_sub (T := SJyn_tell) (FJpa_push c11 _ ec12) (by decide))
      obtain ⟨c13, ec13, e⟩ := bd_s e
      have wc13 := fr_tr (wc12) (fr_sub (T := SJyn_tell) (FJsh_add s0 c12 _ ec13) (by decide))
      rw [← Option.some.inj e]; exact wc13
    · rw [← Option.some.inj e]; exact wc11
theorem FJyn_tell (h : Hp) (o : Int32 × Hp) (e : Jyn_tell h = some o) : Fm SJyn_tell h o.2 := by
  obtain ⟨c1, ec1, e⟩ := bd_s e
  refine ite_e e (fun e => ?_) (fun e => ?_)
  · obtain ⟨c2, ec2, e⟩ := bd_s e
    obtain ⟨c3, ec3, e⟩ := bd_s e
    have wc3 := fr_tr (fr_rf _ _) (fr_sub (T := SJyn_tell) (FJfm_firstFault c2 h _ ec3) (by decide))
    refine ite_e e (fun e => ?_) (fun e => ?_)
    · obtain ⟨c4, ec4, e⟩ := bd_s e
      have wc4 := fr_tr (wc3) (fr_sub (T := SJyn_tell) (FJfm_value c3.2 _ ec4) (by decide))
      exact FJyn_tell_J47 c3.1 c4.1 _ c4.2 o e (wc4)
    · exact FJyn_tell_J47 c3.1 0 _ c3.2 o e (wc3)
  · rw [← Option.some.inj e]; exact fr_rf _ _
def SJm_faultOf : List Nat := [37]
theorem FJm_faultOf_J80 (v1 v2 v3 s0 : Int32) (h0 : Hp) (h : Hp) (o : ((Int32 × Int32) ⊕ ((Int32 × Int32) ⊕ (Int32 × Hp)))) (e : Jm_faultOf_J80 v1 v2 v3 s0 h = some o) (wh : Fm SJm_faultOf h0 h) : sm o (fun s => Fm SJm_faultOf h0 h) (fun q => sm q (fun t => Fm SJm_faultOf h0 h) (fun r => Fm SJm_faultOf h0 r.2)) := by
  refine ite_e e (fun e => ?_) (fun e => ?_)
  · refine lt_e e fun h2 e qh2 => ?_
    have wh2 := fr_set (S := SJm_faultOf) (wh) qh2 (by decide)
    rw [← Option.some.inj e]; exact wh2
  · rw [← Option.some.inj e]; exact wh
theorem FJm_faultOf_L4_s (h0 : Hp) (v1 v2 : Int32) (h : Hp) (o : ((Int32 × Int32) ⊕ ((Int32 × Int32) ⊕ (Int32 × Hp)))) (e : Jm_faultOf_L4 h v1 v2 = some o) (wh : Fm SJm_faultOf h0 h) : sm o (fun s => Fm SJm_faultOf h0 h) (fun q => sm q (fun t => Fm SJm_faultOf h0 h) (fun r => Fm SJm_faultOf h0 r.2)) := by
  refine ite_e e (fun e => ?_) (fun e => ?_)
  · have e := gd_e e
    obtain ⟨c1, ec1, e⟩ := bd_s e
    refine ite_e e (fun e => ?_) (fun e => ?_)
    · exact FJm_faultOf_J80 v1 v2 c1 3 _ h o e (wh)
    · refine ite_e e (fun e => ?_) (fun e => ?_)
      · exact FJm_faultOf_J80 v1 v2 c1 1 _ h o e (wh)
      · have e := gd_e e
        obtain ⟨c3, ec3, e⟩ := bd_s e
        refine ite_e e (fun e => ?_) (fun e => ?_)
        · exact FJm_faultOf_J80 v1 v2 c1 0 _ h o e (wh)
        · have e := gd_e e
          refine ite_e e (fun e => ?_) (fun e => ?_)
          · exact FJm_faultOf_J80 v1 v2 c1 0 _ h o e (wh)
          · exact FJm_faultOf_J80 v1 v2 c1 2 _ h o e (wh)
  · rw [← Option.some.inj e]; exact wh
theorem FJm_faultOf_L4 (h : Hp) (n : Nat) (s0 : Int32 × Int32) (o : ((Int32 × Int32) ⊕ (Int32 × Hp))) (e : loopN n (fun s => Jm_faultOf_L4 h s.1 s.2) s0 = some o) : sm o (fun t => Fm SJm_faultOf (h) h) (fun r => Fm SJm_faultOf (h) r.2) := by
  refine loop_F (fun s => Jm_faultOf_L4 h s.1 s.2) (fun s : Int32 × Int32 => Fm SJm_faultOf (h) (h)) (fun o : ((Int32 × Int32) ⊕ (Int32 × Hp)) => sm o (fun t => Fm SJm_faultOf (h) h) (fun r => Fm SJm_faultOf (h) r.2)) (fun s o e q => ?_) n s0 o e (fr_rf _ _)
  exact FJm_faultOf_L4_s _ s.1 s.2 h o e q
theorem FJm_faultOf (h : Hp) (o : Int32 × Hp) (e : Jm_faultOf h = some o) : Fm SJm_faultOf h o.2 := by
  obtain ⟨t4x, et4, e⟩ := bd_s e
  have qt4 := FJm_faultOf_L4 h 1000000 (1, 0) _ et4
  rcases t4x with t4 | r6
  · skip
    refine ite_e e (fun e => ?_) (fun e => ?_)
    · refine lt_e e fun h5 e qh5 => ?_
      have wh5 := fr_set (S := SJm_faultOf) (fr_rf _ _) qh5 (by decide)
      refine ite_e e (fun e => ?_) (fun e => ?_)
      · rw [← Option.some.inj e]; exact wh5
      · rw [← Option.some.inj e]; exact wh5
    · refine lt_e e fun h6 e qh6 => ?_
      have wh6 := fr_set (S := SJm_faultOf) (fr_rf _ _) qh6 (by decide)
      refine ite_e e (fun e => ?_) (fun e => ?_)
      · rw [← Option.some.inj e]; exact wh6
      · rw [← Option.some.inj e]; exact wh6
  · rw [← Option.some.inj e]; exact fr_tr (fr_rf _ _) qt4
def SJm_worth : List Nat := [52]
theorem FJm_worth_J77 (v1 v2 v3 v4 v5 s0 : Int32) (h0 : Hp) (h : Hp) (o : ((Int32 × Int32 × Hp) ⊕ (Int32 × Int32 × Hp))) (e : Jm_worth_J77 v1 v2 v3 v4 v5 s0 h = some o) (wh : Fm SJm_worth h0 h) : sm o (fun s => Fm SJm_worth h0 s.2.2) (fun t => Fm SJm_worth h0 t.2.2) := by
  refine ite_e e (fun e => ?_) (fun e => ?_)
  · have e := gd_e e
    obtain ⟨c2, ec2, e⟩ := bd_s e
    have e := gd_e e
    refine lt_e e fun h3 e qh3 => ?_
    have wh3 := fr_set (S := SJm_worth) (wh) qh3 (by decide)
    rw [← Option.some.inj e]; exact wh3
  · refine ite_e e (fun e => ?_) (fun e => ?_)
    · have e := gd_e e
      refine lt_e e fun h4 e qh4 => ?_
      have wh4 := fr_set (S := SJm_worth) (wh) qh4 (by decide)
      rw [← Option.some.inj e]; exact wh4
    · refine ite_e e (fun e => ?_) (fun e => ?_)
      · have e := gd_e e
        obtain ⟨c5, ec5, e⟩ := bd_s e
        have e := gd_e e
        refine lt_e e fun h6 e qh6 => ?_
        have wh6 := fr_set (S := SJm_worth) (wh) qh6 (by decide)
        rw [← Option.some.inj e]; exact wh6
      · have e := gd_e e
        obtain ⟨c7, ec7, e⟩ := bd_s e
        have e := gd_e e
        refine lt_e e fun h8 e qh8 => ?_
        have wh8 := fr_set (S := SJm_worth) (wh) qh8 (by decide)
        rw [← Option.some.inj e]; exact wh8
theorem FJm_worth_J58 (v1 v2 v3 v4 s0 : Int32) (h0 : Hp) (h : Hp) (o : ((Int32 × Int32 × Hp) ⊕ (Int32 × Int32 × Hp))) (e : Jm_worth_J58 v1 v2 v3 v4 s0 h = some o) (wh : Fm SJm_worth h0 h) : sm o (fun s => Fm SJm_worth h0 s.2.2) (fun t => Fm SJm_worth h0 t.2.2) := by
  refine ite_e e (fun e => ?_) (fun e => ?_)
  · have e := gd_e e
    exact FJm_worth_J77 v1 v2 v3 v4 s0 (h 52 (Int32.toNatClampNeg (v1 - (3 : Int32)))) _ h o e (wh)
  · exact FJm_worth_J77 v1 v2 v3 v4 s0 0 _ h o e (wh)
theorem FJm_worth_J39 (v1 v2 v3 s0 : Int32) (h0 : Hp) (h : Hp) (o : ((Int32 × Int32 × Hp) ⊕ (Int32 × Int32 × Hp))) (e : Jm_worth_J39 v1 v2 v3 s0 h = some o) (wh : Fm SJm_worth h0 h) : sm o (fun s => Fm SJm_worth h0 s.2.2) (fun t => Fm SJm_worth h0 t.2.2) := by
  refine ite_e e (fun e => ?_) (fun e => ?_)
  · have e := gd_e e
    exact FJm_worth_J58 v1 v2 v3 s0 (h 52 (Int32.toNatClampNeg (v1 - (2 : Int32)))) _ h o e (wh)
  · exact FJm_worth_J58 v1 v2 v3 s0 0 _ h o e (wh)
theorem FJm_worth_L9_s (h0 : Hp) (v1 v2 : Int32) (h : Hp) (o : ((Int32 × Int32 × Hp) ⊕ (Int32 × Int32 × Hp))) (e : Jm_worth_L9 v1 v2 h = some o) (wh : Fm SJm_worth h0 h) : sm o (fun s => Fm SJm_worth h0 s.2.2) (fun t => Fm SJm_worth h0 t.2.2) := by
  refine ite_e e (fun e => ?_) (fun e => ?_)
  · rw [← Option.some.inj e]; exact wh
  · have e := gd_e e
    obtain ⟨c1, ec1, e⟩ := bd_s e
    refine ite_e e (fun e => ?_) (fun e => ?_)
    · have e := gd_e e
      exact FJm_worth_J39 v1 v2 c1 (h 52 (Int32.toNatClampNeg (v1 - (1 : Int32)))) _ h o e (wh)
    · exact FJm_worth_J39 v1 v2 c1 0 _ h o e (wh)
theorem FJm_worth_L9 (n : Nat) (s0 : Int32 × Int32 × Hp) (o : (Int32 × Int32 × Hp)) (e : loopN n (fun s => Jm_worth_L9 s.1 s.2.1 s.2.2) s0 = some o) : Fm SJm_worth (s0.2.2) o.2.2 := by
  refine loop_F (fun s => Jm_worth_L9 s.1 s.2.1 s.2.2) (fun s : Int32 × Int32 × Hp => Fm SJm_worth (s0.2.2) (s.2.2)) (fun o : (Int32 × Int32 × Hp) => Fm SJm_worth (s0.2.2) o.2.2) (fun s o e q => ?_) n s0 o e (fr_rf _ _)
  exact FJm_worth_L9_s _ s.1 s.2.1 s.2.2 o e q
theorem FJm_worth (h : Hp) (o : Int32 × Hp) (e : Jm_worth h = some o) : Fm SJm_worth h o.2 := by
  obtain ⟨t9x, et9, e⟩ := bd_s e
  have qt9 := FJm_worth_L9 1000000 (0, (h 37 6) - (1 : Int32), h) _ et9
  skip
  skip
  have wt9 := fr_tr (fr_rf _ _) qt9
  rw [← Option.some.inj e]; exact wt9
def SJm_copyRow : List Nat := [38]
theorem FJm_copyRow_L2_s (v1 v2 : Int32) (h0 : Hp) (v3 : Int32) (h : Hp) (o : ((Int32 × Hp) ⊕ (Int32 × Hp))) (e : Jm_copyRow_L2 v1 v2 v3 h = some o) (wh : Fm SJm_copyRow h0 h) : sm o (fun s => Fm SJm_copyRow h0 s.2) (fun t => Fm SJm_copyRow h0 t.2) := by
  refine ite_e e (fun e => ?_) (fun e => ?_)
  · have e := gd_e e
    have e := gd_e e
    refine lt_e e fun h1 e qh1 => ?_
    have wh1 := fr_set (S := SJm_copyRow) (wh) qh1 (by decide)
    rw [← Option.some.inj e]; exact wh1
  · rw [← Option.some.inj e]; exact wh
theorem FJm_copyRow_L2 (v1 v2 : Int32) (n : Nat) (s0 : Int32 × Hp) (o : (Int32 × Hp)) (e : loopN n (fun s => Jm_copyRow_L2 v1 v2 s.1 s.2) s0 = some o) : Fm SJm_copyRow (s0.2) o.2 := by
  refine loop_F (fun s => Jm_copyRow_L2 v1 v2 s.1 s.2) (fun s : Int32 × Hp => Fm SJm_copyRow (s0.2) (s.2)) (fun o : (Int32 × Hp) => Fm SJm_copyRow (s0.2) o.2) (fun s o e q => ?_) n s0 o e (fr_rf _ _)
  exact FJm_copyRow_L2_s v1 v2 _ s.1 s.2 o e q
theorem FJm_copyRow (v1 : Int32) (v2 : Int32) (h : Hp) (o : Hp) (e : Jm_copyRow v1 v2 h = some o) : Fm SJm_copyRow h o := by
  obtain ⟨t2x, et2, e⟩ := bd_s e
  have qt2 := FJm_copyRow_L2 v1 v2 1000000 (0, h) _ et2
  skip
  skip
  have wt2 := fr_tr (fr_rf _ _) qt2
  rw [← Option.some.inj e]; exact wt2
def SJm_remember : List Nat := [37, 38]
theorem FJm_remember_L3_s (h0 : Hp) (v1 : Int32) (h : Hp) (o : ((Int32 × Hp) ⊕ (Int32 × Hp))) (e : Jm_remember_L3 v1 h = some o) (wh : Fm SJm_remember h0 h) : sm o (fun s => Fm SJm_remember h0 s.2) (fun t => Fm SJm_remember h0 t.2) := by
  refine ite_e e (fun e => ?_) (fun e => ?_)
  · obtain ⟨c1, ec1, e⟩ := bd_s e
    have wc1 := fr_tr (wh) (fr_sub (T := SJm_remember) (FJm_copyRow ((8 : Int32) * (v1 - (1 : Int32))) ((8 : Int32) * v1) h _ ec1) (by decide))
    rw [← Option.some.inj e]; exact wc1
  · rw [← Option.some.inj e]; exact wh
theorem FJm_remember_L3 (n : Nat) (s0 : Int32 × Hp) (o : (Int32 × Hp)) (e : loopN n (fun s => Jm_remember_L3 s.1 s.2) s0 = some o) : Fm SJm_remember (s0.2) o.2 := by
  refine loop_F (fun s => Jm_remember_L3 s.1 s.2) (fun s : Int32 × Hp => Fm SJm_remember (s0.2) (s.2)) (fun o : (Int32 × Hp) => Fm SJm_remember (s0.2) o.2) (fun s o e q => ?_) n s0 o e (fr_rf _ _)
  exact FJm_remember_L3_s _ s.1 s.2 o e q
theorem FJm_remember (h : Hp) (o : Hp) (e : Jm_remember h = some o) : Fm SJm_remember h o := by
  obtain ⟨t2x, et2, e⟩ := bd_s e
  have qt2 := FJm_remember_L3 1000000 (16, h) _ et2
  skip
  skip
  have wt2 := fr_tr (fr_rf _ _) qt2
  refine ite_e e (fun e => ?_) (fun e => ?_)
  · refine lt_e e fun h3 e qh3 => ?_
    have wh3 := fr_set (S := SJm_remember) (wt2) qh3 (by decide)
    refine lt_e e fun h4 e qh4 => ?_
    have wh4 := fr_set (S := SJm_remember) (wh3) qh4 (by decide)
    rw [← Option.some.inj e]; exact wh4
  · refine lt_e e fun h5 e qh5 => ?_
    have wh5 := fr_set (S := SJm_remember) (wt2) qh5 (by decide)
    refine lt_e e fun h6 e qh6 => ?_
    have wh6 := fr_set (S := SJm_remember) (wh5) qh6 (by decide)
    rw [← Option.some.inj e]; exact wh6
def SJm_add : List Nat := [37, 38]
theorem FJm_add (v1 : Int32) (h : Hp) (o : Int32 × Hp) (e : Jm_add v1 h = some o) : Fm SJm_add h o.2 := by
  obtain ⟨c1, ec1, e⟩ := bd_s e
  have wc1 := fr_tr (fr_rf _ _) (fr_sub (T := SJm_add) (FJm_remember h _ ec1) (by decide))
  refine lt_e e fun h2 e qh2 => ?_
  have wh2 := fr_set (S := SJm_add) (wc1) qh2 (by decide)
  have e := gd_e e
  refine lt_e e fun h3 e qh3 => ?_
  have wh3 := fr_set (S := SJm_add) (wh2) qh3 (by decide)
  rw [← Option.some.inj e]; exact wh3
def SJm_tell : List Nat := [37, 38, 52]
theorem FJm_tell_J31 (v1 s0 : Int32) (h0 : Hp) (h : Hp) (o : (Int32 × Hp)) (e : Jm_tell_J31 v1 s0 h = some o) (wh : Fm SJm_tell h0 h) : Fm SJm_tell h0 o.2 := by
  refine lt_e e fun h3 e qh3 => ?_
  have wh3 := fr_set (S := SJm_tell) (wh) qh3 (by decide)
  refine ite_e e (fun e => ?_) (fun e => ?_)
  · rw [← Option.some.inj e]; exact wh3
  · obtain ⟨c4, ec4, e⟩ := bd_s e
    have wc4 := fr_tr (wh3) (fr_sub (T := SJm_tell) (FJm_add s0 h3 _ ec4) (by decide))
    rw [← Option.some.inj e]; exact wc4
theorem FJm_tell (h : Hp) (o : Int32 × Hp) (e : Jm_tell h = some o) : Fm SJm_tell h o.2 := by
  refine ite_e e (fun e => ?_) (fun e => ?_)
  · rw [← Option.some.inj e]; exact fr_rf _ _
  · obtain ⟨c1, ec1, e⟩ := bd_s e
    have wc1 := fr_tr (fr_rf _ _) (fr_sub (T := SJm_tell) (FJm_faultOf h _ ec1) (by decide))
    refine ite_e e (fun e => ?_) (fun e => ?_)
    · obtain ⟨c2, ec2, e⟩ := bd_s e
      have wc2 := fr_tr (wc1) (fr_sub (T := SJm_tell) (FJm_worth c1.2 _ ec2) (by decide))
      exact FJm_tell_J31 c1.1 c2.1 _ c2.2 o e (wc2)
    · exact FJm_tell_J31 c1.1 0 _ c1.2 o e (wc1)
def SJcs_start : List Nat := [10, 11, 12, 17]
theorem FJcs_start_L10_s (h0 : Hp) (v2 : Int32) (h : Hp) (o : ((Int32 × Hp) ⊕ (Int32 × Hp))) (e : Jcs_start_L10 v2 h = some o) (wh : Fm SJcs_start h0 h) : sm o (fun s => Fm SJcs_start h0 s.2) (fun t => Fm SJcs_start h0 t.2) := by
  refine ite_e e (fun e => ?_) (fun e => ?_)
  · obtain ⟨c3, ec3, e⟩ := bd_s e
    have e := gd_e e
    refine lt_e e fun h4 e qh4 => ?_
    have wh4 := fr_set (S := SJcs_start) (wh) qh4 (by decide)
    rw [← Option.some.inj e]; exact wh4
  · rw [← Option.some.inj e]; exact wh
theorem FJcs_start_L10 (n : Nat) (s0 : Int32 × Hp) (o : (Int32 × Hp)) (e : loopN n (fun s => Jcs_start_L10 s.1 s.2) s0 = some o) : Fm SJcs_start (s0.2) o.2 := by
  refine loop_F (fun s => Jcs_start_L10 s.1 s.2) (fun s : Int32 × Hp => Fm SJcs_start (s0.2) (s.2)) (fun o : (Int32 × Hp) => Fm SJcs_start (s0.2) o.2) (fun s o e q => ?_) n s0 o e (fr_rf _ _)
  exact FJcs_start_L10_s _ s.1 s.2 o e q
theorem FJcs_start_L35_s (h0 : Hp) (v2 : Int32) (h : Hp) (o : ((Int32 × Hp) ⊕ (Int32 × Hp))) (e : Jcs_start_L35 v2 h = some o) (wh : Fm SJcs_start h0 h) : sm o (fun s => Fm SJcs_start h0 s.2) (fun t => Fm SJcs_start h0 t.2) := by
  refine ite_e e (fun e => ?_) (fun e => ?_)
  · have e := gd_e e
    refine lt_e e fun h6 e qh6 => ?_
    have wh6 := fr_set (S := SJcs_start) (wh) qh6 (by decide)
    have e := gd_e e
    refine lt_e e fun h7 e qh7 => ?_
    have wh7 := fr_set (S := SJcs_start) (wh6) qh7 (by decide)
    rw [← Option.some.inj e]; exact wh7
  · rw [← Option.some.inj e]; exact wh
theorem FJcs_start_L35 (n : Nat) (s0 : Int32 × Hp) (o : (Int32 × Hp)) (e : loopN n (fun s => Jcs_start_L35 s.1 s.2) s0 = some o) : Fm SJcs_start (s0.2) o.2 := by
  refine loop_F (fun s => Jcs_start_L35 s.1 s.2) (fun s : Int32 × Hp => Fm SJcs_start (s0.2) (s.2)) (fun o : (Int32 × Hp) => Fm SJcs_start (s0.2) o.2) (fun s o e q => ?_) n s0 o e (fr_rf _ _)
  exact FJcs_start_L35_s _ s.1 s.2 o e q
theorem FJcs_start (h : Hp) (o : Hp) (e : Jcs_start h = some o) : Fm SJcs_start h o := by
  obtain ⟨c1, ec1, e⟩ := bd_s e
  refine lt_e e fun h2 e qh2 => ?_
  have wh2 := fr_set (S := SJcs_start) (fr_rf _ _) qh2 (by decide)
  obtain ⟨t5x, et5, e⟩ := bd_s e
  have qt5 := FJcs_start_L10 1000000 (0, h2) _ et5
  skip
  skip
  have wt5 := fr_tr (wh2) qt5
  obtain ⟨t8x, et8, e⟩ := bd_s e
  have qt8 := FJcs_start_L35 1000000 (0, t5x.2) _ et8
  skip
  skip
  have wt8 := fr_tr (wt5) qt8
  refine lt_e e fun h9 e qh9 => ?_
  have wh9 := fr_set (S := SJcs_start) (wt8) qh9 (by decide)
  refine lt_e e fun h10 e qh10 => ?_
  have wh10 := fr_set (S := SJcs_start) (wh9) qh10 (by decide)
  refine lt_e e fun h11 e qh11 => ?_
  have wh11 := fr_set (S := SJcs_start) (wh10) qh11 (by decide)
  refine lt_e e fun h12 e qh12 => ?_
  have wh12 := fr_set (S := SJcs_start) (wh11) qh12 (by decide)
  refine lt_e e fun h13 e qh13 => ?_
  have wh13 := fr_set (S := SJcs_start) (wh12) qh13 (by decide)
  refine lt_e e fun h14 e qh14 => ?_
  have wh14 := fr_set (S := SJcs_start) (wh13) qh14 (by decide)
  rw [← Option.some.inj e]; exact wh14
def SJcs_miss : List Nat := [10, 15]
theorem FJcs_miss_L7_s (v2 : Int32) (h0 : Hp) (v3 : Int32) (h : Hp) (o : ((Int32 × Hp) ⊕ (Int32 × Hp))) (e : Jcs_miss_L7 v2 v3 h = some o) (wh : Fm SJcs_miss h0 h) : sm o (fun s => Fm SJcs_miss h0 s.2) (fun t => Fm SJcs_miss h0 t.2) := by
  refine ite_e e (fun e => ?_) (fun e => ?_)
  · have e := gd_e e
    refine ite_e e (fun e => ?_) (fun e => ?_)
    · obtain ⟨c2, ec2, e⟩ := bd_s e
      refine ite_e e (fun e => ?_) (fun e => ?_)
      · rw [← Option.some.inj e]; exact wh
      · have e := gd_e e
        refine lt_e e fun h3 e qh3 => ?_
        have wh3 := fr_set (S := SJcs_miss) (wh) qh3 (by decide)
        refine lt_e e fun h4 e qh4 => ?_
        have wh4 := fr_set (S := SJcs_miss) (wh3) qh4 (by decide)
        rw [← Option.some.inj e]; exact wh4
    · rw [← Option.some.inj e]; exact wh
  · rw [← Option.some.inj e]; exact wh
theorem FJcs_miss_L7 (v2 : Int32) (n : Nat) (s0 : Int32 × Hp) (o : (Int32 × Hp)) (e : loopN n (fun s => Jcs_miss_L7 v2 s.1 s.2) s0 = some o) : Fm SJcs_miss (s0.2) o.2 := by
  refine loop_F (fun s => Jcs_miss_L7 v2 s.1 s.2) (fun s : Int32 × Hp => Fm SJcs_miss (s0.2) (s.2)) (fun o : (Int32 × Hp) => Fm SJcs_miss (s0.2) o.2) (fun s o e q => ?_) n s0 o e (fr_rf _ _)
  exact FJcs_miss_L7_s v2 _ s.1 s.2 o e q
theorem FJcs_miss (v2 : Int32) (h : Hp) (o : Hp) (e : Jcs_miss v2 h = some o) : Fm SJcs_miss h o := by
  refine lt_e e fun h1 e qh1 => ?_
  have wh1 := fr_set (S := SJcs_miss) (fr_rf _ _) qh1 (by decide)
  obtain ⟨t5x, et5, e⟩ := bd_s e
  have qt5 := FJcs_miss_L7 v2 1000000 (0, h1) _ et5
  skip
  skip
  have wt5 := fr_tr (wh1) qt5
  rw [← Option.some.inj e]; exact wt5
def SJcs_settle : List Nat := [10, 13, 14]
theorem FJcs_settle_L33_s (h0 : Hp) (v1 : Int32) (h : Hp) (o : ((Int32 × Hp) ⊕ (Int32 × Hp))) (e : Jcs_settle_L33 v1 h = some o) (wh : Fm SJcs_settle h0 h) : sm o (fun s => Fm SJcs_settle h0 s.2) (fun t => Fm SJcs_settle h0 t.2) := by
  refine ite_e e (fun e => ?_) (fun e => ?_)
  · have e := gd_e e
    refine ite_e e (fun e => ?_) (fun e => ?_)
    · refine ite_e e (fun e => ?_) (fun e => ?_)
      · have e := gd_e e
        refine lt_e e fun h2 e qh2 => ?_
        have wh2 := fr_set (S := SJcs_settle) (wh) qh2 (by decide)
        refine lt_e e fun h3 e qh3 => ?_
        have wh3 := fr_set (S := SJcs_settle) (wh2) qh3 (by decide)
        refine lt_e e fun h4 e qh4 => ?_
        have wh4 := fr_set (S := SJcs_settle) (wh3) qh4 (by decide)
        rw [← Option.some.inj e]; exact wh4
      · rw [← Option.some.inj e]; exact wh
    · rw [← Option.some.inj e]; exact wh
  · rw [← Option.some.inj e]; exact wh
theorem FJcs_settle_L33 (n : Nat) (s0 : Int32 × Hp) (o : (Int32 × Hp)) (e : loopN n (fun s => Jcs_settle_L33 s.1 s.2) s0 = some o) : Fm SJcs_settle (s0.2) o.2 := by
  refine loop_F (fun s => Jcs_settle_L33 s.1 s.2) (fun s : Int32 × Hp => Fm SJcs_settle (s0.2) (s.2)) (fun o : (Int32 × Hp) => Fm SJcs_settle (s0.2) o.2) (fun s o e q => ?_) n s0 o e (fr_rf _ _)
  exact FJcs_settle_L33_s _ s.1 s.2 o e q
theorem FJcs_settle (h : Hp) (o : Hp) (e : Jcs_settle h = some o) : Fm SJcs_settle h o := by
  refine ite_e e (fun e => ?_) (fun e => ?_)
  · rw [← Option.some.inj e]; exact fr_rf _ _
  · refine ite_e e (fun e => ?_) (fun e => ?_)
    · rw [← Option.some.inj e]; exact fr_rf _ _
    · have e := gd_e e
      refine lt_e e fun h1 e qh1 => ?_
      have wh1 := fr_set (S := SJcs_settle) (fr_rf _ _) qh1 (by decide)
      obtain ⟨t5x, et5, e⟩ := bd_s e
      have qt5 := FJcs_settle_L33 1000000 (0, h1) _ et5
      skip
      skip
      have wt5 := fr_tr (wh1) qt5
      have e := gd_e e
      refine lt_e e fun h6 e qh6 => ?_
      have wh6 := fr_set (S := SJcs_settle) (wt5) qh6 (by decide)
      rw [← Option.some.inj e]; exact wh6
def SJpu_begin : List Nat := [18]
theorem FJpu_begin (v1 : Int32) (h : Hp) (o : Hp) (e : Jpu_begin v1 h = some o) : Fm SJpu_begin h o := by
  refine lt_e e fun h1 e qh1 => ?_
  have wh1 := fr_set (S := SJpu_begin) (fr_rf _ _) qh1 (by decide)
  obtain ⟨c2, ec2, e⟩ := bd_s e
  refine lt_e e fun h3 e qh3 => ?_
  have wh3 := fr_set (S := SJpu_begin) (wh1) qh3 (by decide)
  obtain ⟨c4, ec4, e⟩ := bd_s e
  refine lt_e e fun h5 e qh5 => ?_
  have wh5 := fr_set (S := SJpu_begin) (wh3) qh5 (by decide)
  rw [← Option.some.inj e]; exact wh5
def SJpu_first : List Nat := [19]
theorem FJpu_first_L2_s (v1 : Int32) (h0 : Hp) (v2 : Int32) (h : Hp) (o : ((Int32 × Hp) ⊕ (Int32 × Hp))) (e : Jpu_first_L2 v1 v2 h = some o) (wh : Fm SJpu_first h0 h) : sm o (fun s => Fm SJpu_first h0 s.2) (fun t => Fm SJpu_first h0 t.2) := by
  refine ite_e e (fun e => ?_) (fun e => ?_)
  · obtain ⟨c1, ec1, e⟩ := bd_s e
    obtain ⟨c2, ec2, e⟩ := bd_s e
    obtain ⟨c3, ec3, e⟩ := bd_s e
    have e := gd_e e
    refine lt_e e fun h4 e qh4 => ?_
    have wh4 := fr_set (S := SJpu_first) (wh) qh4 (by decide)
    rw [← Option.some.inj e]; exact wh4
  · rw [← Option.some.inj e]; exact wh
theorem FJpu_first_L2 (v1 : Int32) (n : Nat) (s0 : Int32 × Hp) (o : (Int32 × Hp)) (e : loopN n (fun s => Jpu_first_L2 v1 s.1 s.2) s0 = some o) : Fm SJpu_first (s0.2) o.2 := by
  refine loop_F (fun s => Jpu_first_L2 v1 s.1 s.2) (fun s : Int32 × Hp => Fm SJpu_first (s0.2) (s.2)) (fun o : (Int32 × Hp) => Fm SJpu_first (s0.2) o.2) (fun s o e q => ?_) n s0 o e (fr_rf _ _)
  exact FJpu_first_L2_s v1 _ s.1 s.2 o e q
theorem FJpu_first (v1 : Int32) (h : Hp) (o : Hp) (e : Jpu_first v1 h = some o) : Fm SJpu_first h o := by
  obtain ⟨t5x, et5, e⟩ := bd_s e
  have qt5 := FJpu_first_L2 v1 1000000 (0, h) _ et5
  skip
  skip
  have wt5 := fr_tr (fr_rf _ _) qt5
  rw [← Option.some.inj e]; exact wt5
def SJcs_aim : List Nat := [10, 16]
theorem FJcs_aim_L7_s (h0 : Hp) (v1 : Int32) (h : Hp) (o : ((Int32 × Hp) ⊕ (Int32 × Hp))) (e : Jcs_aim_L7 v1 h = some o) (wh : Fm SJcs_aim h0 h) : sm o (fun s => Fm SJcs_aim h0 s.2) (fun t => Fm SJcs_aim h0 t.2) := by
  refine ite_e e (fun e => ?_) (fun e => ?_)
  · refine ite_e e (fun e => ?_) (fun e => ?_)
    · have e := gd_e e
      obtain ⟨c2, ec2, e⟩ := bd_s e
      refine ite_e e (fun e => ?_) (fun e => ?_)
      · have e := gd_e e
        obtain ⟨c3, ec3, e⟩ := bd_s e
        refine ite_e e (fun e => ?_) (fun e => ?_)
        · rw [← Option.some.inj e]; exact wh
        · have e := gd_e e
          have e := gd_e e
          refine lt_e e fun h4 e qh4 => ?_
          have wh4 := fr_set (S := SJcs_aim) (wh) qh4 (by decide)
          refine lt_e e fun h5 e qh5 => ?_
          have wh5 := fr_set (S := SJcs_aim) (wh4) qh5 (by decide)
          rw [← Option.some.inj e]; exact wh5
      · rw [← Option.some.inj e]; exact wh
    · rw [← Option.some.inj e]; exact wh
  · rw [← Option.some.inj e]; exact wh
theorem FJcs_aim_L7 (n : Nat) (s0 : Int32 × Hp) (o : (Int32 × Hp)) (e : loopN n (fun s => Jcs_aim_L7 s.1 s.2) s0 = some o) : Fm SJcs_aim (s0.2) o.2 := by
  refine loop_F (fun s => Jcs_aim_L7 s.1 s.2) (fun s : Int32 × Hp => Fm SJcs_aim (s0.2) (s.2)) (fun o : (Int32 × Hp) => Fm SJcs_aim (s0.2) o.2) (fun s o e q => ?_) n s0 o e (fr_rf _ _)
  exact FJcs_aim_L7_s _ s.1 s.2 o e q
theorem FJcs_aim (h : Hp) (o : Hp) (e : Jcs_aim h = some o) : Fm SJcs_aim h o := by
  refine lt_e e fun h1 e qh1 => ?_
  have wh1 := fr_set (S := SJcs_aim) (fr_rf _ _) qh1 (by decide)
  obtain ⟨t6x, et6, e⟩ := bd_s e
  have qt6 := FJcs_aim_L7 1000000 (0, h1) _ et6
  skip
  skip
  have wt6 := fr_tr (wh1) qt6
  rw [← Option.some.inj e]; exact wt6
def SJpu_second : List Nat := [18]
theorem FJpu_second (v1 : Int32) (h : Hp) (o : Hp) (e : Jpu_second v1 h = some o) : Fm SJpu_second h o := by
  obtain ⟨c1, ec1, e⟩ := bd_s e
  refine lt_e e fun h2 e qh2 => ?_
  have wh2 := fr_set (S := SJpu_second) (fr_rf _ _) qh2 (by decide)
  obtain ⟨c3, ec3, e⟩ := bd_s e
  refine lt_e e fun h4 e qh4 => ?_
  have wh4 := fr_set (S := SJpu_second) (wh2) qh4 (by decide)
  rw [← Option.some.inj e]; exact wh4
def SJcs_make : List Nat := [11, 12]
theorem FJcs_make (v1 : Int32) (h : Hp) (o : Hp) (e : Jcs_make v1 h = some o) : Fm SJcs_make h o := by
  obtain ⟨c1, ec1, e⟩ := bd_s e
  refine ite_e e (fun e => ?_) (fun e => ?_)
  · rw [← Option.some.inj e]; exact fr_rf _ _
  · have e := gd_e e
    refine ite_e e (fun e => ?_) (fun e => ?_)
    · have e := gd_e e
      refine lt_e e fun h2 e qh2 => ?_
      have wh2 := fr_set (S := SJcs_make) (fr_rf _ _) qh2 (by decide)
      have e := gd_e e
      refine lt_e e fun h3 e qh3 => ?_
      have wh3 := fr_set (S := SJcs_make) (wh2) qh3 (by decide)
      rw [← Option.some.inj e]; exact wh3
    · rw [← Option.some.inj e]; exact fr_rf _ _
def SJcs_tryThirds : List Nat := [11, 12]
theorem FJcs_tryThirds_L12_s (v1 v2 : Int32) (h0 : Hp) (v3 : Int32) (h : Hp) (o : ((Int32 × Hp) ⊕ (Int32 × Hp))) (e : Jcs_tryThirds_L12 v1 v2 v3 h = some o) (wh : Fm SJcs_tryThirds h0 h) : sm o (fun s => Fm SJcs_tryThirds h0 s.2) (fun t => Fm SJcs_tryThirds h0 t.2) := by
  refine ite_e e (fun e => ?_) (fun e => ?_)
  · refine ite_e e (fun e => ?_) (fun e => ?_)
    · have e := gd_e e
      obtain ⟨c1, ec1, e⟩ := bd_s e
      refine ite_e e (fun e => ?_) (fun e => ?_)
      · rw [← Option.some.inj e]; exact wh
      · have e := gd_e e
        obtain ⟨c2, ec2, e⟩ := bd_s e
        refine ite_e e (fun e => ?_) (fun e => ?_)
        · have e := gd_e e
          obtain ⟨c3, ec3, e⟩ := bd_s e
          refine ite_e e (fun e => ?_) (fun e => ?_)
          · rw [← Option.some.inj e]; exact wh
          · have e := gd_e e
            obtain ⟨c4, ec4, e⟩ := bd_s e
            have wc4 := fr_tr (wh) (fr_sub (T := SJcs_tryThirds) (FJcs_make (h 16 (Int32.toNatClampNeg v3)) h _ ec4) (by decide))
            rw [← Option.some.inj e]; exact wc4
        · rw [← Option.some.inj e]; exact wh
    · rw [← Option.some.inj e]; exact wh
  · rw [← Option.some.inj e]; exact wh
theorem FJcs_tryThirds_L12 (v1 v2 : Int32) (n : Nat) (s0 : Int32 × Hp) (o : (Int32 × Hp)) (e : loopN n (fun s => Jcs_tryThirds_L12 v1 v2 s.1 s.2) s0 = some o) : Fm SJcs_tryThirds (s0.2) o.2 := by
  refine loop_F (fun s => Jcs_tryThirds_L12 v1 v2 s.1 s.2) (fun s : Int32 × Hp => Fm SJcs_tryThirds (s0.2) (s.2)) (fun o : (Int32 × Hp) => Fm SJcs_tryThirds (s0.2) o.2) (fun s o e q => ?_) n s0 o e (fr_rf _ _)
  exact FJcs_tryThirds_L12_s v1 v2 _ s.1 s.2 o e q
theorem FJcs_tryThirds_L94_s (v1 v2 : Int32) (h0 : Hp) (v3 : Int32) (h : Hp) (o : ((Int32 × Hp) ⊕ (Int32 × Hp))) (e : Jcs_tryThirds_L94 v1 v2 v3 h = some o) (wh : Fm SJcs_tryThirds h0 h) : sm o (fun s => Fm SJcs_tryThirds h0 s.2) (fun t => Fm SJcs_tryThirds h0 t.2) := by
  refine ite_e e (fun e => ?_) (fun e => ?_)
  · refine ite_e e (fun e => ?_) (fun e => ?_)
    · have e := gd_e e
      obtain ⟨c6, ec6, e⟩ := bd_s e
      obtain ⟨c7, ec7, e⟩ := bd_s e
      have wc7 := fr_tr (wh) (fr_sub (T := SJcs_tryThirds) (FJcs_make c6 h _ ec7) (by decide))
      rw [← Option.some.inj e]; exact wc7
    · rw [← Option.some.inj e]; exact wh
  · rw [← Option.some.inj e]; exact wh
theorem FJcs_tryThirds_L94 (v1 v2 : Int32) (n : Nat) (s0 : Int32 × Hp) (o : (Int32 × Hp)) (e : loopN n (fun s => Jcs_tryThirds_L94 v1 v2 s.1 s.2) s0 = some o) : Fm SJcs_tryThirds (s0.2) o.2 := by
  refine loop_F (fun s => Jcs_tryThirds_L94 v1 v2 s.1 s.2) (fun s : Int32 × Hp => Fm SJcs_tryThirds (s0.2) (s.2)) (fun o : (Int32 × Hp) => Fm SJcs_tryThirds (s0.2) o.2) (fun s o e q => ?_) n s0 o e (fr_rf _ _)
  exact FJcs_tryThirds_L94_s v1 v2 _ s.1 s.2 o e q
theorem FJcs_tryThirds (v1 : Int32) (v2 : Int32) (h : Hp) (o : Hp) (e : Jcs_tryThirds v1 v2 h = some o) : Fm SJcs_tryThirds h o := by
  refine ite_e e (fun e => ?_) (fun e => ?_)
  · obtain ⟨t5x, et5, e⟩ := bd_s e
    have qt5 := FJcs_tryThirds_L12 v1 v2 1000000 (0, h) _ et5
    skip
    skip
    have wt5 := fr_tr (fr_rf _ _) qt5
    rw [← Option.some.inj e]; exact wt5
  · obtain ⟨t8x, et8, e⟩ := bd_s e
    have qt8 := FJcs_tryThirds_L94 v1 v2 1000000 (if v1 < 0 then 0 else v1, h) _ et8
    skip
    skip
    have wt8 := fr_tr (fr_rf _ _) qt8
    rw [← Option.some.inj e]; exact wt8
def SJcs_trySeconds : List Nat := [11, 12, 18]
theorem FJcs_trySeconds_L89_s (v1 v2 v3 v4 v5 v6 : Int32) (h0 : Hp) (v7 : Int32) (h : Hp) (o : ((Int32 × Hp) ⊕ (Int32 × Hp))) (e : Jcs_trySeconds_L89 v1 v2 v3 v4 v5 v6 v7 h = some o) (wh : Fm SJcs_trySeconds h0 h) : sm o (fun s => Fm SJcs_trySeconds h0 s.2) (fun t => Fm SJcs_trySeconds h0 t.2) := by
  refine ite_e e (fun e => ?_) (fun e => ?_)
  · refine ite_e e (fun e => ?_) (fun e => ?_)
    · have e := gd_e e
      obtain ⟨c8, ec8, e⟩ := bd_s e
      have wc8 := fr_tr (wh) (fr_sub (T := SJcs_trySeconds) (FJpu_second (h 13 (Int32.toNatClampNeg v7)) h _ ec8) (by decide))
      obtain ⟨c9, ec9, e⟩ := bd_s e
      have wc9 := fr_tr (wc8) (fr_sub (T := SJcs_trySeconds) (FJcs_tryThirds v4 v5 c8 _ ec9) (by decide))
      rw [← Option.some.inj e]; exact wc9
    · rw [← Option.some.inj e]; exact wh
  · rw [← Option.some.inj e]; exact wh
theorem FJcs_trySeconds_L89 (v1 v2 v3 v4 v5 v6 : Int32) (n : Nat) (s0 : Int32 × Hp) (o : (Int32 × Hp)) (e : loopN n (fun s => Jcs_trySeconds_L89 v1 v2 v3 v4 v5 v6 s.1 s.2) s0 = some o) : Fm SJcs_trySeconds (s0.2) o.2 := by
  refine loop_F (fun s => Jcs_trySeconds_L89 v1 v2 v3 v4 v5 v6 s.1 s.2) (fun s : Int32 × Hp => Fm SJcs_trySeconds (s0.2) (s.2)) (fun o : (Int32 × Hp) => Fm SJcs_trySeconds (s0.2) o.2) (fun s o e q => ?_) n s0 o e (fr_rf _ _)
  exact FJcs_trySeconds_L89_s v1 v2 v3 v4 v5 v6 _ s.1 s.2 o e q
theorem FJcs_trySeconds_J75 (v1 v2 v3 v4 v5 s0 : Int32) (h0 : Hp) (h : Hp) (o : ((Int32 × Hp) ⊕ (Int32 × Hp))) (e : Jcs_trySeconds_J75 v1 v2 v3 v4 v5 s0 h = some o) (wh : Fm SJcs_trySeconds h0 h) : sm o (fun s => Fm SJcs_trySeconds h0 s.2) (fun t => Fm SJcs_trySeconds h0 t.2) := by
  obtain ⟨c7, ec7, e⟩ := bd_s e
  obtain ⟨t10x, et10, e⟩ := bd_s e
  have qt10 := FJcs_trySeconds_L89 v1 v2 v3 v4 v5 s0 1000000 (if c7 < 0 then 0 else c7, h) _ et10
  skip
  skip
  have wt10 := fr_tr (wh) qt10
  rw [← Option.some.inj e]; exact wt10
theorem FJcs_trySeconds_L11_s (v1 v2 : Int32) (h0 : Hp) (v3 : Int32) (h : Hp) (o : ((Int32 × Hp) ⊕ (Int32 × Hp))) (e : Jcs_trySeconds_L11 v1 v2 v3 h = some o) (wh : Fm SJcs_trySeconds h0 h) : sm o (fun s => Fm SJcs_trySeconds h0 s.2) (fun t => Fm SJcs_trySeconds h0 t.2) := by
  refine ite_e e (fun e => ?_) (fun e => ?_)
  · rw [← Option.some.inj e]; exact wh
  · refine ite_e e (fun e => ?_) (fun e => ?_)
    · obtain ⟨c2, ec2, e⟩ := bd_s e
      obtain ⟨c3, ec3, e⟩ := bd_s e
      obtain ⟨c4, ec4, e⟩ := bd_s e
      obtain ⟨c5, ec5, e⟩ := bd_s e
      refine ite_e e (fun e => ?_) (fun e => ?_)
      · obtain ⟨c6, ec6, e⟩ := bd_s e
        exact FJcs_trySeconds_J75 v1 v2 v3 c3 c5 c6 _ h o e (wh)
      · exact FJcs_trySeconds_J75 v1 v2 v3 c3 c5 0 _ h o e (wh)
    · refine ite_e e (fun e => ?_) (fun e => ?_)
      · rw [← Option.some.inj e]; exact wh
      · obtain ⟨c11, ec11, e⟩ := bd_s e
        obtain ⟨c12, ec12, e⟩ := bd_s e
        obtain ⟨c13, ec13, e⟩ := bd_s e
        obtain ⟨c14, ec14, e⟩ := bd_s e
        refine ite_e e (fun e => ?_) (fun e => ?_)
        · obtain ⟨c15, ec15, e⟩ := bd_s e
          exact FJcs_trySeconds_J75 v1 v2 v3 c12 c14 c15 _ h o e (wh)
        · exact FJcs_trySeconds_J75 v1 v2 v3 c12 c14 0 _ h o e (wh)
theorem FJcs_trySeconds_L11 (v1 v2 : Int32) (n : Nat) (s0 : Int32 × Hp) (o : (Int32 × Hp)) (e : loopN n (fun s => Jcs_trySeconds_L11 v1 v2 s.1 s.2) s0 = some o) : Fm SJcs_trySeconds (s0.2) o.2 := by
  refine loop_F (fun s => Jcs_trySeconds_L11 v1 v2 s.1 s.2) (fun s : Int32 × Hp => Fm SJcs_trySeconds (s0.2) (s.2)) (fun o : (Int32 × Hp) => Fm SJcs_trySeconds (s0.2) o.2) (fun s o e q => ?_) n s0 o e (fr_rf _ _)
  exact FJcs_trySeconds_L11_s v1 v2 _ s.1 s.2 o e q
theorem FJcs_trySeconds (v1 : Int32) (h : Hp) (o : Hp) (e : Jcs_trySeconds v1 h = some o) : Fm SJcs_trySeconds h o := by
  obtain ⟨c1, ec1, e⟩ := bd_s e
  obtain ⟨t16x, et16, e⟩ := bd_s e
  have qt16 := FJcs_trySeconds_L11 v1 c1 1000000 (0, h) _ et16
  skip
  skip
  have wt16 := fr_tr (fr_rf _ _) qt16
  rw [← Option.some.inj e]; exact wt16
def SJcs_tryTop : List Nat := [10, 11, 12, 16, 18, 19]
theorem FJcs_tryTop_L65_s (v1 v2 v3 v4 v5 : Int32) (h0 : Hp) (v6 : Int32) (h : Hp) (o : ((Int32 × Hp) ⊕ (Int32 × Hp))) (e : Jcs_tryTop_L65 v1 v2 v3 v4 v5 v6 h = some o) (wh : Fm SJcs_tryTop h0 h) : sm o (fun s => Fm SJcs_tryTop h0 s.2) (fun t => Fm SJcs_tryTop h0 t.2) := by
  refine ite_e e (fun e => ?_) (fun e => ?_)
  · refine ite_e e (fun e => ?_) (fun e => ?_)
    · have e := gd_e e
      obtain ⟨c6, ec6, e⟩ := bd_s e
      have wc6 := fr_tr (wh) (fr_sub (T := SJcs_tryTop) (FJpu_first (h 13 (Int32.toNatClampNeg v6)) h _ ec6) (by decide))
      obtain ⟨c7, ec7, e⟩ := bd_s e
      have wc7 := fr_tr (wc6) (fr_sub (T := SJcs_tryTop) (FJcs_aim c6 _ ec7) (by decide))
      refine ite_e e (fun e => ?_) (fun e => ?_)
      · obtain ⟨c8, ec8, e⟩ := bd_s e
        have wc8 := fr_tr (wc7) (fr_sub (T := SJcs_tryTop) (FJcs_trySeconds (((c7 10 12) - (1 : Int32)) - v4) c7 _ ec8) (by decide))
        rw [← Option.some.inj e]; exact wc8
      · rw [← Option.some.inj e]; exact wc7
    · rw [← Option.some.inj e]; exact wh
  · rw [← Option.some.inj e]; exact wh
theorem FJcs_tryTop_L65 (v1 v2 v3 v4 v5 : Int32) (n : Nat) (s0 : Int32 × Hp) (o : (Int32 × Hp)) (e : loopN n (fun s => Jcs_tryTop_L65 v1 v2 v3 v4 v5 s.1 s.2) s0 = some o) : Fm SJcs_tryTop (s0.2) o.2 := by
  refine loop_F (fun s => Jcs_tryTop_L65 v1 v2 v3 v4 v5 s.1 s.2) (fun s : Int32 × Hp => Fm SJcs_tryTop (s0.2) (s.2)) (fun o : (Int32 × Hp) => Fm SJcs_tryTop (s0.2) o.2) (fun s o e q => ?_) n s0 o e (fr_rf _ _)
  exact FJcs_tryTop_L65_s v1 v2 v3 v4 v5 _ s.1 s.2 o e q
theorem FJcs_tryTop_L25_s (v1 v2 v3 : Int32) (h0 : Hp) (v4 : Int32) (h : Hp) (o : ((Int32 × Hp) ⊕ (Int32 × Hp))) (e : Jcs_tryTop_L25 v1 v2 v3 v4 h = some o) (wh : Fm SJcs_tryTop h0 h) : sm o (fun s => Fm SJcs_tryTop h0 s.2) (fun t => Fm SJcs_tryTop h0 t.2) := by
  refine ite_e e (fun e => ?_) (fun e => ?_)
  · refine ite_e e (fun e => ?_) (fun e => ?_)
    · obtain ⟨c4, ec4, e⟩ := bd_s e
      obtain ⟨c5, ec5, e⟩ := bd_s e
      obtain ⟨t9x, et9, e⟩ := bd_s e
      have qt9 := FJcs_tryTop_L65 v1 v2 v3 v4 c4 1000000 (if c5 < 0 then 0 else c5, h) _ et9
      skip
      skip
      have wt9 := fr_tr (wh) qt9
      rw [← Option.some.inj e]; exact wt9
    · refine ite_e e (fun e => ?_) (fun e => ?_)
      · rw [← Option.some.inj e]; exact wh
      · obtain ⟨c10, ec10, e⟩ := bd_s e
        obtain ⟨c11, ec11, e⟩ := bd_s e
        obtain ⟨t12x, et12, e⟩ := bd_s e
        have qt12 := FJcs_tryTop_L65 v1 v2 v3 v4 c10 1000000 (if c11 < 0 then 0 else c11, h) _ et12
        skip
        skip
        have wt12 := fr_tr (wh) qt12
        rw [← Option.some.inj e]; exact wt12
  · rw [← Option.some.inj e]; exact wh
theorem FJcs_tryTop_L25 (v1 v2 v3 : Int32) (n : Nat) (s0 : Int32 × Hp) (o : (Int32 × Hp)) (e : loopN n (fun s => Jcs_tryTop_L25 v1 v2 v3 s.1 s.2) s0 = some o) : Fm SJcs_tryTop (s0.2) o.2 := by
  refine loop_F (fun s => Jcs_tryTop_L25 v1 v2 v3 s.1 s.2) (fun s : Int32 × Hp => Fm SJcs_tryTop (s0.2) (s.2)) (fun o : (Int32 × Hp) => Fm SJcs_tryTop (s0.2) o.2) (fun s o e q => ?_) n s0 o e (fr_rf _ _)
  exact FJcs_tryTop_L25_s v1 v2 v3 _ s.1 s.2 o e q
theorem FJcs_tryTop (v1 : Int32) (v2 : Int32) (h : Hp) (o : Hp) (e : Jcs_tryTop v1 v2 h = some o) : Fm SJcs_tryTop h o := by
  refine lt_e e fun h1 e qh1 => ?_
  have wh1 := fr_set (S := SJcs_tryTop) (fr_rf _ _) qh1 (by decide)
  obtain ⟨c2, ec2, e⟩ := bd_s e
  have wc2 := fr_tr (wh1) (fr_sub (T := SJcs_tryTop) (FJpu_begin v2 h1 _ ec2) (by decide))
  obtain ⟨c3, ec3, e⟩ := bd_s e
  obtain ⟨t13x, et13, e⟩ := bd_s e
  have qt13 := FJcs_tryTop_L25 v1 v2 c3 1000000 (0, c2) _ et13
  skip
  skip
  have wt13 := fr_tr (wc2) qt13
  rw [← Option.some.inj e]; exact wt13
def SJcs_dropMade : List Nat := [10, 15]
theorem FJcs_dropMade_L4_s (h0 : Hp) (v1 v2 : Int32) (h : Hp) (o : ((Int32 × Int32 × Hp) ⊕ (Int32 × Int32 × Hp))) (e : Jcs_dropMade_L4 v1 v2 h = some o) (wh : Fm SJcs_dropMade h0 h) : sm o (fun s => Fm SJcs_dropMade h0 s.2.2) (fun t => Fm SJcs_dropMade h0 t.2.2) := by
  refine ite_e e (fun e => ?_) (fun e => ?_)
  · refine ite_e e (fun e => ?_) (fun e => ?_)
    · have e := gd_e e
      obtain ⟨c1, ec1, e⟩ := bd_s e
      refine ite_e e (fun e => ?_) (fun e => ?_)
      · have e := gd_e e
        have e := gd_e e
        refine lt_e e fun h2 e qh2 => ?_
        have wh2 := fr_set (S := SJcs_dropMade) (wh) qh2 (by decide)
        rw [← Option.some.inj e]; exact wh2
      · rw [← Option.some.inj e]; exact wh
    · rw [← Option.some.inj e]; exact wh
  · rw [← Option.some.inj e]; exact wh
theorem FJcs_dropMade_L4 (n : Nat) (s0 : Int32 × Int32 × Hp) (o : (Int32 × Int32 × Hp)) (e : loopN n (fun s => Jcs_dropMade_L4 s.1 s.2.1 s.2.2) s0 = some o) : Fm SJcs_dropMade (s0.2.2) o.2.2 := by
  refine loop_F (fun s => Jcs_dropMade_L4 s.1 s.2.1 s.2.2) (fun s : Int32 × Int32 × Hp => Fm SJcs_dropMade (s0.2.2) (s.2.2)) (fun o : (Int32 × Int32 × Hp) => Fm SJcs_dropMade (s0.2.2) o.2.2) (fun s o e q => ?_) n s0 o e (fr_rf _ _)
  exact FJcs_dropMade_L4_s _ s.1 s.2.1 s.2.2 o e q
theorem FJcs_dropMade (h : Hp) (o : Hp) (e : Jcs_dropMade h = some o) : Fm SJcs_dropMade h o := by
  obtain ⟨t3x, et3, e⟩ := bd_s e
  have qt3 := FJcs_dropMade_L4 1000000 (0, 0, h) _ et3
  skip
  skip
  have wt3 := fr_tr (fr_rf _ _) qt3
  refine lt_e e fun h4 e qh4 => ?_
  have wh4 := fr_set (S := SJcs_dropMade) (wt3) qh4 (by decide)
  rw [← Option.some.inj e]; exact wh4
def SJcs_reckon : List Nat := [10, 11, 12, 13, 14, 15, 16, 17, 18, 19]
theorem FJcs_reckon_L55_s (v3 v4 : Int32) (h0 : Hp) (v5 : Int32) (h : Hp) (o : ((Int32 × Hp) ⊕ (Int32 × Hp))) (e : Jcs_reckon_L55 v3 v4 v5 h = some o) (wh : Fm SJcs_reckon h0 h) : sm o (fun s => Fm SJcs_reckon h0 s.2) (fun t => Fm SJcs_reckon h0 t.2) := by
  refine ite_e e (fun e => ?_) (fun e => ?_)
  · obtain ⟨c5, ec5, e⟩ := bd_s e
    refine ite_e e (fun e => ?_) (fun e => ?_)
    · rw [← Option.some.inj e]; exact wh
    · obtain ⟨c6, ec6, e⟩ := bd_s e
      obtain ⟨c7, ec7, e⟩ := bd_s e
      have wc7 := fr_tr (wh) (fr_sub (T := SJcs_reckon) (FJcs_tryTop v5 c6 h _ ec7) (by decide))
      obtain ⟨c8, ec8, e⟩ := bd_s e
      have wc8 := fr_tr (wc7) (fr_sub (T := SJcs_reckon) (FJcs_dropMade c7 _ ec8) (by decide))
      rw [← Option.some.inj e]; exact wc8
  · rw [← Option.some.inj e]; exact wh
theorem FJcs_reckon_L55 (v3 v4 : Int32) (n : Nat) (s0 : Int32 × Hp) (o : (Int32 × Hp)) (e : loopN n (fun s => Jcs_reckon_L55 v3 v4 s.1 s.2) s0 = some o) : Fm SJcs_reckon (s0.2) o.2 := by
  refine loop_F (fun s => Jcs_reckon_L55 v3 v4 s.1 s.2) (fun s : Int32 × Hp => Fm SJcs_reckon (s0.2) (s.2)) (fun o : (Int32 × Hp) => Fm SJcs_reckon (s0.2) o.2) (fun s o e q => ?_) n s0 o e (fr_rf _ _)
  exact FJcs_reckon_L55_s v3 v4 _ s.1 s.2 o e q
theorem FJcs_reckon_L18_s (v3 : Int32) (h0 : Hp) (v4 : Int32) (h : Hp) (o : ((Int32 × Hp) ⊕ (Int32 × Hp))) (e : Jcs_reckon_L18 v3 v4 h = some o) (wh : Fm SJcs_reckon h0 h) : sm o (fun s => Fm SJcs_reckon h0 s.2) (fun t => Fm SJcs_reckon h0 t.2) := by
  refine ite_e e (fun e => ?_) (fun e => ?_)
  · rw [← Option.some.inj e]; exact wh
  · refine ite_e e (fun e => ?_) (fun e => ?_)
    · rw [← Option.some.inj e]; exact wh
    · refine ite_e e (fun e => ?_) (fun e => ?_)
      · refine lt_e e fun h4 e qh4 => ?_
        have wh4 := fr_set (S := SJcs_reckon) (wh) qh4 (by decide)
        obtain ⟨t9x, et9, e⟩ := bd_s e
        have qt9 := FJcs_reckon_L55 v3 v4 1000000 (0, h4) _ et9
        skip
        skip
        have wt9 := fr_tr (wh4) qt9
        obtain ⟨c10, ec10, e⟩ := bd_s e
        have wc10 := fr_tr (wt9) (fr_sub (T := SJcs_reckon) (FJcs_settle t9x.2 _ ec10) (by decide))
        rw [← Option.some.inj e]; exact wc10
      · rw [← Option.some.inj e]; exact wh
theorem FJcs_reckon_L18 (v3 : Int32) (n : Nat) (s0 : Int32 × Hp) (o : (Int32 × Hp)) (e : loopN n (fun s => Jcs_reckon_L18 v3 s.1 s.2) s0 = some o) : Fm SJcs_reckon (s0.2) o.2 := by
  refine loop_F (fun s => Jcs_reckon_L18 v3 s.1 s.2) (fun s : Int32 × Hp => Fm SJcs_reckon (s0.2) (s.2)) (fun o : (Int32 × Hp) => Fm SJcs_reckon (s0.2) o.2) (fun s o e q => ?_) n s0 o e (fr_rf _ _)
  exact FJcs_reckon_L18_s v3 _ s.1 s.2 o e q
theorem FJcs_reckon (v3 : Int32) (h : Hp) (o : Hp) (e : Jcs_reckon v3 h = some o) : Fm SJcs_reckon h o := by
  obtain ⟨c1, ec1, e⟩ := bd_s e
  have wc1 := fr_tr (fr_rf _ _) (fr_sub (T := SJcs_reckon) (FJcs_start h _ ec1) (by decide))
  obtain ⟨c2, ec2, e⟩ := bd_s e
  have wc2 := fr_tr (wc1) (fr_sub (T := SJcs_reckon) (FJcs_miss v3 c1 _ ec2) (by decide))
  obtain ⟨c3, ec3, e⟩ := bd_s e
  have wc3 := fr_tr (wc2) (fr_sub (T := SJcs_reckon) (FJcs_settle c2 _ ec3) (by decide))
  obtain ⟨t11x, et11, e⟩ := bd_s e
  have qt11 := FJcs_reckon_L18 v3 1000000 (1, c3) _ et11
  skip
  skip
  have wt11 := fr_tr (wc3) qt11
  rw [← Option.some.inj e]; exact wt11
def SJwy_forget : List Nat := [23, 25]
theorem FJwy_forget_L2_s (h0 : Hp) (v1 : Int32) (h : Hp) (o : ((Int32 × Hp) ⊕ (Int32 × Hp))) (e : Jwy_forget_L2 v1 h = some o) (wh : Fm SJwy_forget h0 h) : sm o (fun s => Fm SJwy_forget h0 s.2) (fun t => Fm SJwy_forget h0 t.2) := by
  refine ite_e e (fun e => ?_) (fun e => ?_)
  · have e := gd_e e
    refine lt_e e fun h1 e qh1 => ?_
    have wh1 := fr_set (S := SJwy_forget) (wh) qh1 (by decide)
    have e := gd_e e
    refine lt_e e fun h2 e qh2 => ?_
    have wh2 := fr_set (S := SJwy_forget) (wh1) qh2 (by decide)
    rw [← Option.some.inj e]; exact wh2
  · rw [← Option.some.inj e]; exact wh
theorem FJwy_forget_L2 (n : Nat) (s0 : Int32 × Hp) (o : (Int32 × Hp)) (e : loopN n (fun s => Jwy_forget_L2 s.1 s.2) s0 = some o) : Fm SJwy_forget (s0.2) o.2 := by
  refine loop_F (fun s => Jwy_forget_L2 s.1 s.2) (fun s : Int32 × Hp => Fm SJwy_forget (s0.2) (s.2)) (fun o : (Int32 × Hp) => Fm SJwy_forget (s0.2) o.2) (fun s o e q => ?_) n s0 o e (fr_rf _ _)
  exact FJwy_forget_L2_s _ s.1 s.2 o e q
theorem FJwy_forget (h : Hp) (o : Hp) (e : Jwy_forget h = some o) : Fm SJwy_forget h o := by
  obtain ⟨t3x, et3, e⟩ := bd_s e
  have qt3 := FJwy_forget_L2 1000000 (0, h) _ et3
  skip
  skip
  have wt3 := fr_tr (fr_rf _ _) qt3
  rw [← Option.some.inj e]; exact wt3
def SJyn_reckoned : List Nat := [10, 11, 12, 13, 14, 15, 16, 17, 18, 19, 23, 25]
theorem FJyn_reckoned (h : Hp) (o : Hp) (e : Jyn_reckoned h = some o) : Fm SJyn_reckoned h o := by
  obtain ⟨c1, ec1, e⟩ := bd_s e
  obtain ⟨c2, ec2, e⟩ := bd_s e
  refine ite_e e (fun e => ?_) (fun e => ?_)
  · obtain ⟨c3, ec3, e⟩ := bd_s e
    obtain ⟨c4, ec4, e⟩ := bd_s e
    have wc4 := fr_tr (fr_rf _ _) (fr_sub (T := SJyn_reckoned) (FJcs_reckon c3 h _ ec4) (by decide))
    obtain ⟨c5, ec5, e⟩ := bd_s e
    have wc5 := fr_tr (wc4) (fr_sub (T := SJyn_reckoned) (FJwy_forget c4 _ ec5) (by decide))
    rw [← Option.some.inj e]; exact wc5
  · rw [← Option.some.inj e]; exact fr_rf _ _
def SJyn_told : List Nat := [10, 11, 12, 13, 14, 15, 16, 17, 18, 19, 23, 25]
theorem FJyn_told (v1 : Int32) (h : Hp) (o : Int32 × Hp) (e : Jyn_told v1 h = some o) : Fm SJyn_told h o.2 := by
  refine ite_e e (fun e => ?_) (fun e => ?_)
  · obtain ⟨c1, ec1, e⟩ := bd_s e
    rw [← Option.some.inj e]; exact fr_rf _ _
  · refine ite_e e (fun e => ?_) (fun e => ?_)
    · obtain ⟨c2, ec2, e⟩ := bd_s e
      rw [← Option.some.inj e]; exact fr_rf _ _
    · refine ite_e e (fun e => ?_) (fun e => ?_)
      · obtain ⟨c3, ec3, e⟩ := bd_s e
        rw [← Option.some.inj e]; exact fr_rf _ _
      · refine ite_e e (fun e => ?_) (fun e => ?_)
        · obtain ⟨c4, ec4, e⟩ := bd_s e
          rw [← Option.some.inj e]; exact fr_rf _ _
        · refine ite_e e (fun e => ?_) (fun e => ?_)
          · obtain ⟨c5, ec5, e⟩ := bd_s e
            obtain ⟨c6, ec6, e⟩ := bd_s e
            rw [← Option.some.inj e]; exact fr_rf _ _
          · refine ite_e e (fun e => ?_) (fun e => ?_)
            · obtain ⟨c7, ec7, e⟩ := bd_s e
              have wc7 := fr_tr (fr_rf _ _) (fr_sub (T := SJyn_told) (FJyn_reckoned h _ ec7) (by decide))
              obtain ⟨c8, ec8, e⟩ := bd_s e
              rw [← Option.some.inj e]; exact wc7
            · refine ite_e e (fun e => ?_) (fun e => ?_)
              · obtain ⟨c9, ec9, e⟩ := bd_s e
                have wc9 := fr_tr (fr_rf _ _) (fr_sub (T := SJyn_told) (FJyn_reckoned h _ ec9) (by decide))
                obtain ⟨c10, ec10, e⟩ := bd_s e
                rw [← Option.some.inj e]; exact wc9
              · refine ite_e e (fun e => ?_) (fun e => ?_)
                · obtain ⟨c11, ec11, e⟩ := bd_s e
                  have wc11 := fr_tr (fr_rf _ _) (fr_sub (T := SJyn_told) (FJyn_reckoned h _ ec11) (by decide))
                  obtain ⟨c12, ec12, e⟩ := bd_s e
                  have wc12 := fr_tr (wc11) (fr_sub (T := SJyn_told) (FJyn_reckoned c11 _ ec12) (by decide))
                  obtain ⟨c13, ec13, e⟩ := bd_s e
                  obtain ⟨c14, ec14, e⟩ := bd_s e
                  rw [← Option.some.inj e]; exact wc12
                · refine ite_e e (fun e => ?_) (fun e => ?_)
                  · obtain ⟨c15, ec15, e⟩ := bd_s e
                    rw [← Option.some.inj e]; exact fr_rf _ _
                  · refine ite_e e (fun e => ?_) (fun e => ?_)
                    · obtain ⟨c16, ec16, e⟩ := bd_s e
                      rw [← Option.some.inj e]; exact fr_rf _ _
                    · refine ite_e e (fun e => ?_) (fun e => ?_)
                      · obtain ⟨c17, ec17, e⟩ := bd_s e
                        rw [← Option.some.inj e]; exact fr_rf _ _
                      · refine ite_e e (fun e => ?_) (fun e => ?_)
                        · obtain ⟨c18, ec18, e⟩ := bd_s e
                          have wc18 := fr_tr (fr_rf _ _) (fr_sub (T := SJyn_told) (FJyn_reckoned h _ ec18) (by decide))
                          obtain ⟨c19, ec19, e⟩ := bd_s e
                          rw [← Option.some.inj e]; exact wc18
                        · refine ite_e e (fun e => ?_) (fun e => ?_)
                          · obtain ⟨c20, ec20, e⟩ := bd_s e
                            rw [← Option.some.inj e]; exact fr_rf _ _
                          · rw [← Option.some.inj e]; exact fr_rf _ _
def SJm_layTraits : List Nat := [37, 43]
theorem FJm_layTraits_L18_s (v1 : Int32) (h0 : Hp) (v2 : Int32) (h : Hp) (o : ((Int32 × Hp) ⊕ (Int32 × Hp))) (e : Jm_layTraits_L18 v1 v2 h = some o) (wh : Fm SJm_layTraits h0 h) : sm o (fun s => Fm SJm_layTraits h0 s.2) (fun t => Fm SJm_layTraits h0 t.2) := by
  refine ite_e e (fun e => ?_) (fun e => ?_)
  · have e := gd_e e
    obtain ⟨c1, ec1, e⟩ := bd_s e
    refine ite_e e (fun e => ?_) (fun e => ?_)
    · have e := gd_e e
      refine lt_e e fun h2 e qh2 => ?_
      have wh2 := fr_set (S := SJm_layTraits) (wh) qh2 (by decide)
      rw [← Option.some.inj e]; exact wh2
    · have e := gd_e e
      refine lt_e e fun h3 e qh3 => ?_
      have wh3 := fr_set (S := SJm_layTraits) (wh) qh3 (by decide)
      rw [← Option.some.inj e]; exact wh3
  · rw [← Option.some.inj e]; exact wh
theorem FJm_layTraits_L18 (v1 : Int32) (n : Nat) (s0 : Int32 × Hp) (o : (Int32 × Hp)) (e : loopN n (fun s => Jm_layTraits_L18 v1 s.1 s.2) s0 = some o) : Fm SJm_layTraits (s0.2) o.2 := by
  refine loop_F (fun s => Jm_layTraits_L18 v1 s.1 s.2) (fun s : Int32 × Hp => Fm SJm_layTraits (s0.2) (s.2)) (fun o : (Int32 × Hp) => Fm SJm_layTraits (s0.2) o.2) (fun s o e q => ?_) n s0 o e (fr_rf _ _)
  exact FJm_layTraits_L18_s v1 _ s.1 s.2 o e q
theorem FJm_layTraits_L2_s (h0 : Hp) (v1 : Int32) (h : Hp) (o : ((Int32 × Hp) ⊕ (Int32 × Hp))) (e : Jm_layTraits_L2 v1 h = some o) (wh : Fm SJm_layTraits h0 h) : sm o (fun s => Fm SJm_layTraits h0 s.2) (fun t => Fm SJm_layTraits h0 t.2) := by
  refine ite_e e (fun e => ?_) (fun e => ?_)
  · refine ite_e e (fun e => ?_) (fun e => ?_)
    · obtain ⟨t4x, et4, e⟩ := bd_s e
      have qt4 := FJm_layTraits_L18 v1 1000000 (0, h) _ et4
      skip
      skip
      have wt4 := fr_tr (wh) qt4
      rw [← Option.some.inj e]; exact wt4
    · rw [← Option.some.inj e]; exact wh
  · rw [← Option.some.inj e]; exact wh
theorem FJm_layTraits_L2 (n : Nat) (s0 : Int32 × Hp) (o : (Int32 × Hp)) (e : loopN n (fun s => Jm_layTraits_L2 s.1 s.2) s0 = some o) : Fm SJm_layTraits (s0.2) o.2 := by
  refine loop_F (fun s => Jm_layTraits_L2 s.1 s.2) (fun s : Int32 × Hp => Fm SJm_layTraits (s0.2) (s.2)) (fun o : (Int32 × Hp) => Fm SJm_layTraits (s0.2) o.2) (fun s o e q => ?_) n s0 o e (fr_rf _ _)
  exact FJm_layTraits_L2_s _ s.1 s.2 o e q
theorem FJm_layTraits (h : Hp) (o : Hp) (e : Jm_layTraits h = some o) : Fm SJm_layTraits h o := by
  obtain ⟨t5x, et5, e⟩ := bd_s e
  have qt5 := FJm_layTraits_L2 1000000 (0, h) _ et5
  skip
  skip
  have wt5 := fr_tr (fr_rf _ _) qt5
  refine lt_e e fun h6 e qh6 => ?_
  have wh6 := fr_set (S := SJm_layTraits) (wt5) qh6 (by decide)
  rw [← Option.some.inj e]; exact wh6
def SJm_common : List Nat := [37, 43]
theorem FJm_common (v1 : Int32) (h : Hp) (o : Int32 × Hp) (e : Jm_common v1 h = some o) : Fm SJm_common h o.2 := by
  obtain ⟨c1, ec1, e⟩ := bd_s e
  have wc1 := fr_tr (fr_rf _ _) (fr_sub (T := SJm_common) (FJm_layTraits h _ ec1) (by decide))
  obtain ⟨t3x, et3, e⟩ := bd_s e
  skip
  skip
  rw [← Option.some.inj e]; exact wc1
def SJm_layPlaces : List Nat := [37, 43, 44]
theorem FJm_layPlaces_L13_s (h0 : Hp) (v1 : Int32) (h : Hp) (o : ((Int32 × Hp) ⊕ (Hp))) (e : Jm_layPlaces_L13 v1 h = some o) (wh : Fm SJm_layPlaces h0 h) : sm o (fun s => Fm SJm_layPlaces h0 s.2) (fun t => Fm SJm_layPlaces h0 t) := by
  refine ite_e e (fun e => ?_) (fun e => ?_)
  · rw [← Option.some.inj e]; exact wh
  · obtain ⟨c2, ec2, e⟩ := bd_s e
    refine ite_e e (fun e => ?_) (fun e => ?_)
    · refine ite_e e (fun e => ?_) (fun e => ?_)
      · have e := gd_e e
        refine lt_e e fun h3 e qh3 => ?_
        have wh3 := fr_set (S := SJm_layPlaces) (wh) qh3 (by decide)
        refine lt_e e fun h4 e qh4 => ?_
        have wh4 := fr_set (S := SJm_layPlaces) (wh3) qh4 (by decide)
        rw [← Option.some.inj e]; exact wh4
      · rw [← Option.some.inj e]; exact wh
    · rw [← Option.some.inj e]; exact wh
theorem FJm_layPlaces_L13 (n : Nat) (s0 : Int32 × Hp) (o : (Hp)) (e : loopN n (fun s => Jm_layPlaces_L13 s.1 s.2) s0 = some o) : Fm SJm_layPlaces (s0.2) o := by
  refine loop_F (fun s => Jm_layPlaces_L13 s.1 s.2) (fun s : Int32 × Hp => Fm SJm_layPlaces (s0.2) (s.2)) (fun o : (Hp) => Fm SJm_layPlaces (s0.2) o) (fun s o e q => ?_) n s0 o e (fr_rf _ _)
  exact FJm_layPlaces_L13_s _ s.1 s.2 o e q
theorem FJm_layPlaces (h : Hp) (o : Hp) (e : Jm_layPlaces h = some o) : Fm SJm_layPlaces h o := by
  obtain ⟨c1, ec1, e⟩ := bd_s e
  have wc1 := fr_tr (fr_rf _ _) (fr_sub (T := SJm_layPlaces) (FJm_layTraits h _ ec1) (by decide))
  refine ite_e e (fun e => ?_) (fun e => ?_)
  · obtain ⟨t5x, et5, e⟩ := bd_s e
    have qt5 := FJm_layPlaces_L13 1000000 (0, c1) _ et5
    skip
    skip
    have wt5 := fr_tr (wc1) qt5
    rw [← Option.some.inj e]; exact wt5
  · rw [← Option.some.inj e]; exact wc1
def SJm_placeOf : List Nat := [37, 43, 44]
theorem FJm_placeOf (v1 : Int32) (h : Hp) (o : Int32 × Hp) (e : Jm_placeOf v1 h = some o) : Fm SJm_placeOf h o.2 := by
  obtain ⟨c1, ec1, e⟩ := bd_s e
  have wc1 := fr_tr (fr_rf _ _) (fr_sub (T := SJm_placeOf) (FJm_layPlaces h _ ec1) (by decide))
  obtain ⟨t2x, et2, e⟩ := bd_s e
  skip
  skip
  rw [← Option.some.inj e]; exact wc1
def SJm_closeLevel : List Nat := [50, 51]
theorem FJm_closeLevel_L14_s (v1 : Int32) (h0 : Hp) (v2 v3 : Int32) (h : Hp) (o : ((Int32 × Int32 × Hp) ⊕ (Int32 × Int32 × Hp))) (e : Jm_closeLevel_L14 v1 v2 v3 h = some o) (wh : Fm SJm_closeLevel h0 h) : sm o (fun s => Fm SJm_closeLevel h0 s.2.2) (fun t => Fm SJm_closeLevel h0 t.2.2) := by
  refine ite_e e (fun e => ?_) (fun e => ?_)
  · have e := gd_e e
    refine ite_e e (fun e => ?_) (fun e => ?_)
    · have e := gd_e e
      refine lt_e e fun h2 e qh2 => ?_
      have wh2 := fr_set (S := SJm_closeLevel) (wh) qh2 (by decide)
      rw [← Option.some.inj e]; exact wh2
    · rw [← Option.some.inj e]; exact wh
  · rw [← Option.some.inj e]; exact wh
theorem FJm_closeLevel_L14 (v1 : Int32) (n : Nat) (s0 : Int32 × Int32 × Hp) (o : (Int32 × Int32 × Hp)) (e : loopN n (fun s => Jm_closeLevel_L14 v1 s.1 s.2.1 s.2.2) s0 = some o) : Fm SJm_closeLevel (s0.2.2) o.2.2 := by
  refine loop_F (fun s => Jm_closeLevel_L14 v1 s.1 s.2.1 s.2.2) (fun s : Int32 × Int32 × Hp => Fm SJm_closeLevel (s0.2.2) (s.2.2)) (fun o : (Int32 × Int32 × Hp) => Fm SJm_closeLevel (s0.2.2) o.2.2) (fun s o e q => ?_) n s0 o e (fr_rf _ _)
  exact FJm_closeLevel_L14_s v1 _ s.1 s.2.1 s.2.2 o e q
theorem FJm_closeLevel (v1 : Int32) (h : Hp) (o : Int32 × Hp) (e : Jm_closeLevel v1 h = some o) : Fm SJm_closeLevel h o.2 := by
  have e := gd_e e
  refine lt_e e fun h1 e qh1 => ?_
  have wh1 := fr_set (S := SJm_closeLevel) (fr_rf _ _) qh1 (by decide)
  obtain ⟨t3x, et3, e⟩ := bd_s e
  have qt3 := FJm_closeLevel_L14 v1 1000000 (v1, 0, h1) _ et3
  skip
  skip
  have wt3 := fr_tr (wh1) qt3
  have e := gd_e e
  refine lt_e e fun h4 e qh4 => ?_
  have wh4 := fr_set (S := SJm_closeLevel) (wt3) qh4 (by decide)
  rw [← Option.some.inj e]; exact wh4
def SJm_offer : List Nat := [46, 47, 48, 49]
theorem FJm_offer_J97 (v1 v2 v3 v4 v5 s1 s2 s3 : Int32) (h0 : Hp) (h : Hp) (o : (Hp)) (e : Jm_offer_J97 v1 v2 v3 v4 v5 s1 s2 s3 h = some o) (wh : Fm SJm_offer h0 h) : Fm SJm_offer h0 o := by
  refine ite_e e (fun e => ?_) (fun e => ?_)
  · have e := gd_e e
    refine lt_e e fun h6 e qh6 => ?_
    have wh6 := fr_set (S := SJm_offer) (wh) qh6 (by decide)
    rw [← Option.some.inj e]; exact wh6
  · have e := gd_e e
    have e := gd_e e
    refine lt_e e fun h7 e qh7 => ?_
    have wh7 := fr_set (S := SJm_offer) (wh) qh7 (by decide)
    rw [← Option.some.inj e]; exact wh7
theorem FJm_offer_J80 (v1 v2 v3 v4 v5 s1 s2 s3 : Int32) (h0 : Hp) (h : Hp) (o : (Hp)) (e : Jm_offer_J80 v1 v2 v3 v4 v5 s1 s2 s3 h = some o) (wh : Fm SJm_offer h0 h) : Fm SJm_offer h0 o := by
  refine ite_e e (fun e => ?_) (fun e => ?_)
  · exact FJm_offer_J97 v1 v2 v3 v4 v5 s1 (s2 + s3) 0 _ h o e (wh)
  · have e := gd_e e
    refine ite_e e (fun e => ?_) (fun e => ?_)
    · have e := gd_e e
      refine lt_e e fun h8 e qh8 => ?_
      have wh8 := fr_set (S := SJm_offer) (wh) qh8 (by decide)
      rw [← Option.some.inj e]; exact wh8
    · have e := gd_e e
      have e := gd_e e
      refine lt_e e fun h9 e qh9 => ?_
      have wh9 := fr_set (S := SJm_offer) (wh) qh9 (by decide)
      rw [← Option.some.inj e]; exact wh9
theorem FJm_offer (v1 : Int32) (v2 : Int32) (v3 : Int32) (v4 : Int32) (v5 : Int32) (h : Hp) (o : Hp) (e : Jm_offer v1 v2 v3 v4 v5 h = some o) : Fm SJm_offer h o := by
  have e := gd_e e
  refine ite_e e (fun e => ?_) (fun e => ?_)
  · have e := gd_e e
    refine lt_e e fun h1 e qh1 => ?_
    have wh1 := fr_set (S := SJm_offer) (fr_rf _ _) qh1 (by decide)
    have e := gd_e e
    refine lt_e e fun h2 e qh2 => ?_
    have wh2 := fr_set (S := SJm_offer) (wh1) qh2 (by decide)
    have e := gd_e e
    refine lt_e e fun h3 e qh3 => ?_
    have wh3 := fr_set (S := SJm_offer) (wh2) qh3 (by decide)
    have e := gd_e e
    refine lt_e e fun h4 e qh4 => ?_
    have wh4 := fr_set (S := SJm_offer) (wh3) qh4 (by decide)
    have e := gd_e e
    refine lt_e e fun h5 e qh5 => ?_
    have wh5 := fr_set (S := SJm_offer) (wh4) qh5 (by decide)
    refine ite_e e (fun e => ?_) (fun e => ?_)
    · exact FJm_offer_J80 v1 v2 v3 v4 v5 v1 1 0 _ h5 o e (wh5)
    · have e := gd_e e
      refine ite_e e (fun e => ?_) (fun e => ?_)
      · exact FJm_offer_J97 v1 v2 v3 v4 v5 v1 ((1 : Int32) + (h5 49 (Int32.toNatClampNeg v3))) 0 _ h5 o e (wh5)
      · have e := gd_e e
        refine ite_e e (fun e => ?_) (fun e => ?_)
        · have e := gd_e e
          refine lt_e e fun h10 e qh10 => ?_
          have wh10 := fr_set (S := SJm_offer) (wh5) qh10 (by decide)
          rw [← Option.some.inj e]; exact wh10
        · have e := gd_e e
          have e := gd_e e
          refine lt_e e fun h11 e qh11 => ?_
          have wh11 := fr_set (S := SJm_offer) (wh5) qh11 (by decide)
          rw [← Option.some.inj e]; exact wh11
  · rw [← Option.some.inj e]; exact fr_rf _ _
def SJm_offerThird : List Nat := [46, 47, 48, 49]
theorem FJm_offerThird_L41_s (v1 v2 v3 v4 v5 v6 v7 : Int32) (h0 : Hp) (v8 : Int32) (h : Hp) (o : ((Int32 × Hp) ⊕ (Int32 × Hp))) (e : Jm_offerThird_L41 v1 v2 v3 v4 v5 v6 v7 v8 h = some o) (wh : Fm SJm_offerThird h0 h) : sm o (fun s => Fm SJm_offerThird h0 s.2) (fun t => Fm SJm_offerThird h0 t.2) := by
  have e := gd_e e
  refine ite_e e (fun e => ?_) (fun e => ?_)
  · have e := gd_e e
    obtain ⟨c3, ec3, e⟩ := bd_s e
    have wc3 := fr_tr (wh) (fr_sub (T := SJm_offerThird) (FJm_offer ((v6 &&& (h 50 (Int32.toNatClampNeg v8))) ||| (v7 &&& ((h 50 (Int32.toNatClampNeg v8)) ^^^ (-1 : Int32)))) v1 v2 v3 (h 50 (Int32.toNatClampNeg v8)) h _ ec3) (by decide))
    rw [← Option.some.inj e]; exact wc3
  · rw [← Option.some.inj e]; exact wh
theorem FJm_offerThird_L41 (v1 v2 v3 v4 v5 v6 v7 : Int32) (n : Nat) (s0 : Int32 × Hp) (o : (Int32 × Hp)) (e : loopN n (fun s => Jm_offerThird_L41 v1 v2 v3 v4 v5 v6 v7 s.1 s.2) s0 = some o) : Fm SJm_offerThird (s0.2) o.2 := by
  refine loop_F (fun s => Jm_offerThird_L41 v1 v2 v3 v4 v5 v6 v7 s.1 s.2) (fun s : Int32 × Hp => Fm SJm_offerThird (s0.2) (s.2)) (fun o : (Int32 × Hp) => Fm SJm_offerThird (s0.2) o.2) (fun s o e q => ?_) n s0 o e (fr_rf _ _)
  exact FJm_offerThird_L41_s v1 v2 v3 v4 v5 v6 v7 _ s.1 s.2 o e q
theorem FJm_offerThird (v1 : Int32) (v2 : Int32) (v3 : Int32) (v4 : Int32) (h : Hp) (o : Hp) (e : Jm_offerThird v1 v2 v3 v4 h = some o) : Fm SJm_offerThird h o := by
  have e := gd_e e
  obtain ⟨c1, ec1, e⟩ := bd_s e
  obtain ⟨c2, ec2, e⟩ := bd_s e
  have e := gd_e e
  obtain ⟨t4x, et4, e⟩ := bd_s e
  have qt4 := FJm_offerThird_L41 v1 v2 v3 v4 (h 38 (Int32.toNatClampNeg ((1 : Int32) + v1))) c1 c2 1000000 (h 51 (Int32.toNatClampNeg v4), h) _ et4
  skip
  skip
  have wt4 := fr_tr (fr_rf _ _) qt4
  rw [← Option.some.inj e]; exact wt4
def SJm_offerSecond : List Nat := [46, 47, 48, 49]
theorem FJm_offerSecond_J45 (v1 v2 v3 v4 s0 : Int32) (h0 : Hp) (h : Hp) (o : ((Int32 × Hp) ⊕ (Int32 × Hp))) (e : Jm_offerSecond_J45 v1 v2 v3 v4 s0 h = some o) (wh : Fm SJm_offerSecond h0 h) : sm o (fun s => Fm SJm_offerSecond h0 s.2) (fun t => Fm SJm_offerSecond h0 t.2) := by
  refine ite_e e (fun e => ?_) (fun e => ?_)
  · refine ite_e e (fun e => ?_) (fun e => ?_)
    · have e := gd_e e
      obtain ⟨c2, ec2, e⟩ := bd_s e
      obtain ⟨c3, ec3, e⟩ := bd_s e
      have wc3 := fr_tr (wh) (fr_sub (T := SJm_offerSecond) (FJm_offer c2 v1 v2 v4 (-1) h _ ec3) (by decide))
      rw [← Option.some.inj e]; exact wc3
    · rw [← Option.some.inj e]; exact wh
  · refine ite_e e (fun e => ?_) (fun e => ?_)
    · obtain ⟨c4, ec4, e⟩ := bd_s e
      have wc4 := fr_tr (wh) (fr_sub (T := SJm_offerSecond) (FJm_offerThird v1 v2 v4 s0 h _ ec4) (by decide))
      rw [← Option.some.inj e]; exact wc4
    · refine ite_e e (fun e => ?_) (fun e => ?_)
      · have e := gd_e e
        obtain ⟨c5, ec5, e⟩ := bd_s e
        obtain ⟨c6, ec6, e⟩ := bd_s e
        have wc6 := fr_tr (wh) (fr_sub (T := SJm_offerSecond) (FJm_offer c5 v1 v2 v4 (-1) h _ ec6) (by decide))
        rw [← Option.some.inj e]; exact wc6
      · rw [← Option.some.inj e]; exact wh
theorem FJm_offerSecond_L3_s (v1 v2 v3 : Int32) (h0 : Hp) (v4 : Int32) (h : Hp) (o : ((Int32 × Hp) ⊕ (Int32 × Hp))) (e : Jm_offerSecond_L3 v1 v2 v3 v4 h = some o) (wh : Fm SJm_offerSecond h0 h) : sm o (fun s => Fm SJm_offerSecond h0 s.2) (fun t => Fm SJm_offerSecond h0 t.2) := by
  refine ite_e e (fun e => ?_) (fun e => ?_)
  · obtain ⟨c1, ec1, e⟩ := bd_s e
    refine ite_e e (fun e => ?_) (fun e => ?_)
    · exact FJm_offerSecond_J45 v1 v2 v3 v4 (-1) _ h o e (wh)
    · have e := gd_e e
      have e := gd_e e
      exact FJm_offerSecond_J45 v1 v2 v3 v4 ((((h 37 24) - (1 : Int32)) - (h 46 (Int32.toNatClampNeg v2))) - (h 46 (Int32.toNatClampNeg v4))) _ h o e (wh)
  · rw [← Option.some.inj e]; exact wh
theorem FJm_offerSecond_L3 (v1 v2 v3 : Int32) (n : Nat) (s0 : Int32 × Hp) (o : (Int32 × Hp)) (e : loopN n (fun s => Jm_offerSecond_L3 v1 v2 v3 s.1 s.2) s0 = some o) : Fm SJm_offerSecond (s0.2) o.2 := by
  refine loop_F (fun s => Jm_offerSecond_L3 v1 v2 v3 s.1 s.2) (fun s : Int32 × Hp => Fm SJm_offerSecond (s0.2) (s.2)) (fun o : (Int32 × Hp) => Fm SJm_offerSecond (s0.2) o.2) (fun s o e q => ?_) n s0 o e (fr_rf _ _)
  exact FJm_offerSecond_L3_s v1 v2 v3 _ s.1 s.2 o e q
theorem FJm_offerSecond (v1 : Int32) (v2 : Int32) (v3 : Int32) (h : Hp) (o : Hp) (e : Jm_offerSecond v1 v2 v3 h = some o) : Fm SJm_offerSecond h o := by
  obtain ⟨t7x, et7, e⟩ := bd_s e
  have qt7 := FJm_offerSecond_L3 v1 v2 v3 1000000 (0, h) _ et7
  skip
  skip
  have wt7 := fr_tr (fr_rf _ _) qt7
  rw [← Option.some.inj e]; exact wt7
def SJm_offerAll : List Nat := [46, 47, 48, 49]
theorem FJm_offerAll_J78 (v1 v2 v3 s0 : Int32) (h0 : Hp) (h : Hp) (o : ((Int32 × Hp) ⊕ (Int32 × Hp))) (e : Jm_offerAll_J78 v1 v2 v3 s0 h = some o) (wh : Fm SJm_offerAll h0 h) : sm o (fun s => Fm SJm_offerAll h0 s.2) (fun t => Fm SJm_offerAll h0 t.2) := by
  refine ite_e e (fun e => ?_) (fun e => ?_)
  · refine ite_e e (fun e => ?_) (fun e => ?_)
    · have e := gd_e e
      obtain ⟨c4, ec4, e⟩ := bd_s e
      obtain ⟨c5, ec5, e⟩ := bd_s e
      have wc5 := fr_tr (wh) (fr_sub (T := SJm_offerAll) (FJm_offer c4 v1 v3 (-1) (-1) h _ ec5) (by decide))
      rw [← Option.some.inj e]; exact wc5
    · rw [← Option.some.inj e]; exact wh
  · refine ite_e e (fun e => ?_) (fun e => ?_)
    · obtain ⟨c6, ec6, e⟩ := bd_s e
      have wc6 := fr_tr (wh) (fr_sub (T := SJm_offerAll) (FJm_offerSecond v1 v3 v2 h _ ec6) (by decide))
      rw [← Option.some.inj e]; exact wc6
    · refine ite_e e (fun e => ?_) (fun e => ?_)
      · have e := gd_e e
        obtain ⟨c7, ec7, e⟩ := bd_s e
        obtain ⟨c8, ec8, e⟩ := bd_s e
        have wc8 := fr_tr (wh) (fr_sub (T := SJm_offerAll) (FJm_offer c7 v1 v3 (-1) (-1) h _ ec8) (by decide))
        rw [← Option.some.inj e]; exact wc8
      · rw [← Option.some.inj e]; exact wh
theorem FJm_offerAll_L42_s (v1 v2 : Int32) (h0 : Hp) (v3 : Int32) (h : Hp) (o : ((Int32 × Hp) ⊕ (Int32 × Hp))) (e : Jm_offerAll_L42 v1 v2 v3 h = some o) (wh : Fm SJm_offerAll h0 h) : sm o (fun s => Fm SJm_offerAll h0 s.2) (fun t => Fm SJm_offerAll h0 t.2) := by
  refine ite_e e (fun e => ?_) (fun e => ?_)
  · refine ite_e e (fun e => ?_) (fun e => ?_)
    · obtain ⟨c3, ec3, e⟩ := bd_s e
      refine ite_e e (fun e => ?_) (fun e => ?_)
      · exact FJm_offerAll_J78 v1 v2 v3 (-1) _ h o e (wh)
      · have e := gd_e e
        exact FJm_offerAll_J78 v1 v2 v3 (((h 37 24) - (1 : Int32)) - (h 46 (Int32.toNatClampNeg v3))) _ h o e (wh)
    · rw [← Option.some.inj e]; exact wh
  · rw [← Option.some.inj e]; exact wh
theorem FJm_offerAll_L42 (v1 v2 : Int32) (n : Nat) (s0 : Int32 × Hp) (o : (Int32 × Hp)) (e : loopN n (fun s => Jm_offerAll_L42 v1 v2 s.1 s.2) s0 = some o) : Fm SJm_offerAll (s0.2) o.2 := by
  refine loop_F (fun s => Jm_offerAll_L42 v1 v2 s.1 s.2) (fun s : Int32 × Hp => Fm SJm_offerAll (s0.2) (s.2)) (fun o : (Int32 × Hp) => Fm SJm_offerAll (s0.2) o.2) (fun s o e q => ?_) n s0 o e (fr_rf _ _)
  exact FJm_offerAll_L42_s v1 v2 _ s.1 s.2 o e q
theorem FJm_offerAll (v1 : Int32) (h : Hp) (o : Hp) (e : Jm_offerAll v1 h = some o) : Fm SJm_offerAll h o := by
  have e := gd_e e
  obtain ⟨c1, ec1, e⟩ := bd_s e
  refine ite_e e (fun e => ?_) (fun e => ?_)
  · refine ite_e e (fun e => ?_) (fun e => ?_)
    · have e := gd_e e
      obtain ⟨c2, ec2, e⟩ := bd_s e
      have wc2 := fr_tr (fr_rf _ _) (fr_sub (T := SJm_offerAll) (FJm_offer (h 38 (Int32.toNatClampNeg ((1 : Int32) + v1))) v1 (-1) (-1) (-1) h _ ec2) (by decide))
      obtain ⟨t9x, et9, e⟩ := bd_s e
      have qt9 := FJm_offerAll_L42 v1 c1 1000000 (0, c2) _ et9
      skip
      skip
      have wt9 := fr_tr (wc2) qt9
      rw [← Option.some.inj e]; exact wt9
    · obtain ⟨t10x, et10, e⟩ := bd_s e
      have qt10 := FJm_offerAll_L42 v1 c1 1000000 (0, h) _ et10
      skip
      skip
      have wt10 := fr_tr (fr_rf _ _) qt10
      rw [← Option.some.inj e]; exact wt10
  · obtain ⟨t11x, et11, e⟩ := bd_s e
    have qt11 := FJm_offerAll_L42 v1 c1 1000000 (0, h) _ et11
    skip
    skip
    have wt11 := fr_tr (fr_rf _ _) qt11
    rw [← Option.some.inj e]; exact wt11
def SJm_layCosts : List Nat := [37, 46, 47, 48, 49, 50, 51]
theorem FJm_layCosts_J63 (v1 v2 s1 s2 : Int32) (h0 : Hp) (h : Hp) (o : ((Int32 × Hp) ⊕ (Int32 × Hp))) (e : Jm_layCosts_J63 v1 v2 s1 s2 h = some o) (wh : Fm SJm_layCosts h0 h) : sm o (fun s => Fm SJm_layCosts h0 s.2) (fun t => Fm SJm_layCosts h0 t.2) := by
  have e := gd_e e
  refine lt_e e fun h2 e qh2 => ?_
  have wh2 := fr_set (S := SJm_layCosts) (wh) qh2 (by decide)
  refine ite_e e (fun e => ?_) (fun e => ?_)
  · have e := gd_e e
    refine lt_e e fun h3 e qh3 => ?_
    have wh3 := fr_set (S := SJm_layCosts) (wh2) qh3 (by decide)
    rw [← Option.some.inj e]; exact wh3
  · have e := gd_e e
    refine lt_e e fun h4 e qh4 => ?_
    have wh4 := fr_set (S := SJm_layCosts) (wh2) qh4 (by decide)
    rw [← Option.some.inj e]; exact wh4
theorem FJm_layCosts_J48 (v1 s0 : Int32) (h0 : Hp) (h : Hp) (o : ((Int32 × Hp) ⊕ (Int32 × Hp))) (e : Jm_layCosts_J48 v1 s0 h = some o) (wh : Fm SJm_layCosts h0 h) : sm o (fun s => Fm SJm_layCosts h0 s.2) (fun t => Fm SJm_layCosts h0 t.2) := by
  refine ite_e e (fun e => ?_) (fun e => ?_)
  · exact FJm_layCosts_J63 v1 s0 v1 (-1) _ h o e (wh)
  · exact FJm_layCosts_J63 v1 s0 v1 0 _ h o e (wh)
theorem FJm_layCosts_L15_s (h0 : Hp) (v1 : Int32) (h : Hp) (o : ((Int32 × Hp) ⊕ (Int32 × Hp))) (e : Jm_layCosts_L15 v1 h = some o) (wh : Fm SJm_layCosts h0 h) : sm o (fun s => Fm SJm_layCosts h0 s.2) (fun t => Fm SJm_layCosts h0 t.2) := by
  refine ite_e e (fun e => ?_) (fun e => ?_)
  · refine ite_e e (fun e => ?_) (fun e => ?_)
    · exact FJm_layCosts_J48 v1 1 _ h o e (wh)
    · refine ite_e e (fun e => ?_) (fun e => ?_)
      · exact FJm_layCosts_J48 v1 1 _ h o e (wh)
      · refine ite_e e (fun e => ?_) (fun e => ?_)
        · exact FJm_layCosts_J48 v1 1 _ h o e (wh)
        · exact FJm_layCosts_J48 v1 0 _ h o e (wh)
  · rw [← Option.some.inj e]; exact wh
theorem FJm_layCosts_L15 (n : Nat) (s0 : Int32 × Hp) (o : (Int32 × Hp)) (e : loopN n (fun s => Jm_layCosts_L15 s.1 s.2) s0 = some o) : Fm SJm_layCosts (s0.2) o.2 := by
  refine loop_F (fun s => Jm_layCosts_L15 s.1 s.2) (fun s : Int32 × Hp => Fm SJm_layCosts (s0.2) (s.2)) (fun o : (Int32 × Hp) => Fm SJm_layCosts (s0.2) o.2) (fun s o e q => ?_) n s0 o e (fr_rf _ _)
  exact FJm_layCosts_L15_s _ s.1 s.2 o e q
theorem FJm_layCosts_L124_s (v1 v2 v3 : Int32) (h0 : Hp) (v4 : Int32) (h : Hp) (o : ((Int32 × Hp) ⊕ (Int32 × Hp))) (e : Jm_layCosts_L124 v1 v2 v3 v4 h = some o) (wh : Fm SJm_layCosts h0 h) : sm o (fun s => Fm SJm_layCosts h0 s.2) (fun t => Fm SJm_layCosts h0 t.2) := by
  refine ite_e e (fun e => ?_) (fun e => ?_)
  · obtain ⟨c9, ec9, e⟩ := bd_s e
    refine ite_e e (fun e => ?_) (fun e => ?_)
    · rw [← Option.some.inj e]; exact wh
    · obtain ⟨c10, ec10, e⟩ := bd_s e
      have wc10 := fr_tr (wh) (fr_sub (T := SJm_layCosts) (FJm_offerAll v4 h _ ec10) (by decide))
      rw [← Option.some.inj e]; exact wc10
  · rw [← Option.some.inj e]; exact wh
theorem FJm_layCosts_L124 (v1 v2 v3 : Int32) (n : Nat) (s0 : Int32 × Hp) (o : (Int32 × Hp)) (e : loopN n (fun s => Jm_layCosts_L124 v1 v2 v3 s.1 s.2) s0 = some o) : Fm SJm_layCosts (s0.2) o.2 := by
  refine loop_F (fun s => Jm_layCosts_L124 v1 v2 v3 s.1 s.2) (fun s : Int32 × Hp => Fm SJm_layCosts (s0.2) (s.2)) (fun o : (Int32 × Hp) => Fm SJm_layCosts (s0.2) o.2) (fun s o e q => ?_) n s0 o e (fr_rf _ _)
  exact FJm_layCosts_L124_s v1 v2 v3 _ s.1 s.2 o e q
theorem FJm_layCosts_L100_s (h0 : Hp) (v1 v2 v3 : Int32) (h : Hp) (o : ((Int32 × Int32 × Int32 × Hp) ⊕ (Int32 × Int32 × Int32 × Hp))) (e : Jm_layCosts_L100 v1 v2 v3 h = some o) (wh : Fm SJm_layCosts h0 h) : sm o (fun s => Fm SJm_layCosts h0 s.2.2.2) (fun t => Fm SJm_layCosts h0 t.2.2.2) := by
  refine ite_e e (fun e => ?_) (fun e => ?_)
  · rw [← Option.some.inj e]; exact wh
  · refine ite_e e (fun e => ?_) (fun e => ?_)
    · rw [← Option.some.inj e]; exact wh
    · refine lt_e e fun h8 e qh8 => ?_
      have wh8 := fr_set (S := SJm_layCosts) (wh) qh8 (by decide)
      obtain ⟨t11x, et11, e⟩ := bd_s e
      have qt11 := FJm_layCosts_L124 v1 v2 v3 1000000 (0, h8) _ et11
      skip
      skip
      have wt11 := fr_tr (wh8) qt11
      obtain ⟨c12, ec12, e⟩ := bd_s e
      have wc12 := fr_tr (wt11) (fr_sub (T := SJm_layCosts) (FJm_closeLevel v1 t11x.2 _ ec12) (by decide))
      refine ite_e e (fun e => ?_) (fun e => ?_)
      · rw [← Option.some.inj e]; exact wc12
      · rw [← Option.some.inj e]; exact wc12
theorem FJm_layCosts_L100 (n : Nat) (s0 : Int32 × Int32 × Int32 × Hp) (o : (Int32 × Int32 × Int32 × Hp)) (e : loopN n (fun s => Jm_layCosts_L100 s.1 s.2.1 s.2.2.1 s.2.2.2) s0 = some o) : Fm SJm_layCosts (s0.2.2.2) o.2.2.2 := by
  refine loop_F (fun s => Jm_layCosts_L100 s.1 s.2.1 s.2.2.1 s.2.2.2) (fun s : Int32 × Int32 × Int32 × Hp => Fm SJm_layCosts (s0.2.2.2) (s.2.2.2)) (fun o : (Int32 × Int32 × Int32 × Hp) => Fm SJm_layCosts (s0.2.2.2) o.2.2.2) (fun s o e q => ?_) n s0 o e (fr_rf _ _)
  exact FJm_layCosts_L100_s _ s.1 s.2.1 s.2.2.1 s.2.2.2 o e q
theorem FJm_layCosts (h : Hp) (o : Hp) (e : Jm_layCosts h = some o) : Fm SJm_layCosts h o := by
  refine ite_e e (fun e => ?_) (fun e => ?_)
  · refine lt_e e fun h1 e qh1 => ?_
    have wh1 := fr_set (S := SJm_layCosts) (fr_rf _ _) qh1 (by decide)
    obtain ⟨t5x, et5, e⟩ := bd_s e
    have qt5 := FJm_layCosts_L15 1000000 (0, h1) _ et5
    skip
    skip
    have wt5 := fr_tr (wh1) qt5
    refine lt_e e fun h6 e qh6 => ?_
    have wh6 := fr_set (S := SJm_layCosts) (wt5) qh6 (by decide)
    obtain ⟨c7, ec7, e⟩ := bd_s e
    have wc7 := fr_tr (wh6) (fr_sub (T := SJm_layCosts) (FJm_closeLevel 0 h6 _ ec7) (by decide))
    obtain ⟨t13x, et13, e⟩ := bd_s e
    have qt13 := FJm_layCosts_L100 1000000 (c7.1, 0, 1, c7.2) _ et13
    skip
    skip
    have wt13 := fr_tr (wc7) qt13
    rw [← Option.some.inj e]; exact wt13
  · rw [← Option.some.inj e]; exact fr_rf _ _
def SJm_madeMany : List Nat := [37, 46, 47, 48, 49, 50, 51]
theorem FJm_madeMany (h : Hp) (o : Int32 × Hp) (e : Jm_madeMany h = some o) : Fm SJm_madeMany h o.2 := by
  obtain ⟨c1, ec1, e⟩ := bd_s e
  have wc1 := fr_tr (fr_rf _ _) (fr_sub (T := SJm_madeMany) (FJm_layCosts h _ ec1) (by decide))
  obtain ⟨t2x, et2, e⟩ := bd_s e
  skip
  skip
  rw [← Option.some.inj e]; exact wc1
def SJm_dearestCode : List Nat := [37, 46, 47, 48, 49, 50, 51]
theorem FJm_dearestCode (h : Hp) (o : Int32 × Hp) (e : Jm_dearestCode h = some o) : Fm SJm_dearestCode h o.2 := by
  obtain ⟨c1, ec1, e⟩ := bd_s e
  have wc1 := fr_tr (fr_rf _ _) (fr_sub (T := SJm_dearestCode) (FJm_layCosts h _ ec1) (by decide))
  obtain ⟨t2x, et2, e⟩ := bd_s e
  skip
  skip
  rw [← Option.some.inj e]; exact wc1
def SJm_spare : List Nat := [37, 43]
theorem FJm_spare_L4_s (h0 : Hp) (v1 v2 : Int32) (h : Hp) (o : ((Int32 × Int32 × Hp) ⊕ (Int32 × Int32 × Hp))) (e : Jm_spare_L4 v1 v2 h = some o) (wh : Fm SJm_spare h0 h) : sm o (fun s => Fm SJm_spare h0 s.2.2) (fun t => Fm SJm_spare h0 t.2.2) := by
  refine ite_e e (fun e => ?_) (fun e => ?_)
  · obtain ⟨c1, ec1, e⟩ := bd_s e
    refine ite_e e (fun e => ?_) (fun e => ?_)
    · rw [← Option.some.inj e]; exact wh
    · obtain ⟨c2, ec2, e⟩ := bd_s e
      have wc2 := fr_tr (wh) (fr_sub (T := SJm_spare) (FJm_common v2 h _ ec2) (by decide))
      obtain ⟨c3, ec3, e⟩ := bd_s e
      have wc3 := fr_tr (wc2) (fr_sub (T := SJm_spare) (FJm_common (-1) c2.2 _ ec3) (by decide))
      refine ite_e e (fun e => ?_) (fun e => ?_)
      · rw [← Option.some.inj e]; exact wc3
      · rw [← Option.some.inj e]; exact wc3
  · rw [← Option.some.inj e]; exact wh
theorem FJm_spare_L4 (n : Nat) (s0 : Int32 × Int32 × Hp) (o : (Int32 × Int32 × Hp)) (e : loopN n (fun s => Jm_spare_L4 s.1 s.2.1 s.2.2) s0 = some o) : Fm SJm_spare (s0.2.2) o.2.2 := by
  refine loop_F (fun s => Jm_spare_L4 s.1 s.2.1 s.2.2) (fun s : Int32 × Int32 × Hp => Fm SJm_spare (s0.2.2) (s.2.2)) (fun o : (Int32 × Int32 × Hp) => Fm SJm_spare (s0.2.2) o.2.2) (fun s o e q => ?_) n s0 o e (fr_rf _ _)
  exact FJm_spare_L4_s _ s.1 s.2.1 s.2.2 o e q
theorem FJm_spare (h : Hp) (o : Int32 × Hp) (e : Jm_spare h = some o) : Fm SJm_spare h o.2 := by
  obtain ⟨t4x, et4, e⟩ := bd_s e
  have qt4 := FJm_spare_L4 1000000 (0, 0, h) _ et4
  skip
  skip
  have wt4 := fr_tr (fr_rf _ _) qt4
  rw [← Option.some.inj e]; exact wt4
def SJm_wrong : List Nat := [37, 46, 47, 48, 49, 50, 51]
theorem FJm_wrong_L6_s (h0 : Hp) (v1 : Int32) (h : Hp) (o : ((Int32) ⊕ ((Int32) ⊕ (Int32 × Hp)))) (e : Jm_wrong_L6 h v1 = some o) (wh : Fm SJm_wrong h0 h) : sm o (fun s => Fm SJm_wrong h0 h) (fun q => sm q (fun t => Fm SJm_wrong h0 h) (fun r => Fm SJm_wrong h0 r.2)) := by
  refine ite_e e (fun e => ?_) (fun e => ?_)
  · have e := gd_e e
    have e := gd_e e
    have e := gd_e e
    refine ite_e e (fun e => ?_) (fun e => ?_)
    · rw [← Option.some.inj e]; exact wh
    · rw [← Option.some.inj e]; exact wh
  · rw [← Option.some.inj e]; exact wh
theorem FJm_wrong_L6 (h : Hp) (n : Nat) (s0 : Int32) (o : ((Int32) ⊕ (Int32 × Hp))) (e : loopN n (fun s => Jm_wrong_L6 h s) s0 = some o) : sm o (fun t => Fm SJm_wrong (h) h) (fun r => Fm SJm_wrong (h) r.2) := by
  refine loop_F (fun s => Jm_wrong_L6 h s) (fun s : Int32 => Fm SJm_wrong (h) (h)) (fun o : ((Int32) ⊕ (Int32 × Hp)) => sm o (fun t => Fm SJm_wrong (h) h) (fun r => Fm SJm_wrong (h) r.2)) (fun s o e q => ?_) n s0 o e (fr_rf _ _)
  exact FJm_wrong_L6_s _ s h o e q
theorem FJm_wrong (h : Hp) (o : Int32 × Hp) (e : Jm_wrong h = some o) : Fm SJm_wrong h o.2 := by
  obtain ⟨c1, ec1, e⟩ := bd_s e
  have wc1 := fr_tr (fr_rf _ _) (fr_sub (T := SJm_wrong) (FJm_layCosts h _ ec1) (by decide))
  obtain ⟨t2x, et2, e⟩ := bd_s e
  have qt2 := FJm_wrong_L6 c1 1000000 0 _ et2
  rcases t2x with t2 | r2
  · skip
    rw [← Option.some.inj e]; exact wc1
  · rw [← Option.some.inj e]; exact fr_tr (wc1) qt2
def SJm_toldOfAll : List Nat := [37, 43, 44, 46, 47, 48, 49, 50, 51]
theorem FJm_toldOfAll (v1 : Int32) (h : Hp) (o : Int32 × Hp) (e : Jm_toldOfAll v1 h = some o) : Fm SJm_toldOfAll h o.2 := by
  refine ite_e e (fun e => ?_) (fun e => ?_)
  · obtain ⟨c1, ec1, e⟩ := bd_s e
    have wc1 := fr_tr (fr_rf _ _) (fr_sub (T := SJm_toldOfAll) (FJm_dearestCode h _ ec1) (by decide))
    rw [← Option.some.inj e]; exact wc1
  · refine ite_e e (fun e => ?_) (fun e => ?_)
    · obtain ⟨c2, ec2, e⟩ := bd_s e
      have wc2 := fr_tr (fr_rf _ _) (fr_sub (T := SJm_toldOfAll) (FJm_spare h _ ec2) (by decide))
      rw [← Option.some.inj e]; exact wc2
    · refine ite_e e (fun e => ?_) (fun e => ?_)
      · obtain ⟨c3, ec3, e⟩ := bd_s e
        have wc3 := fr_tr (fr_rf _ _) (fr_sub (T := SJm_toldOfAll) (FJm_layPlaces h _ ec3) (by decide))
        rw [← Option.some.inj e]; exact wc3
      · refine ite_e e (fun e => ?_) (fun e => ?_)
        · rw [← Option.some.inj e]; exact fr_rf _ _
        · refine ite_e e (fun e => ?_) (fun e => ?_)
          · obtain ⟨c4, ec4, e⟩ := bd_s e
            have wc4 := fr_tr (fr_rf _ _) (fr_sub (T := SJm_toldOfAll) (FJm_wrong h _ ec4) (by decide))
            rw [← Option.some.inj e]; exact wc4
          · refine ite_e e (fun e => ?_) (fun e => ?_)
            · rw [← Option.some.inj e]; exact fr_rf _ _
            · rw [← Option.some.inj e]; exact fr_rf _ _
def SJm_told : List Nat := [37, 43, 44, 46, 47, 48, 49, 50, 51]
theorem FJm_told (v1 : Int32) (h : Hp) (o : Int32 × Hp) (e : Jm_told v1 h = some o) : Fm SJm_told h o.2 := by
  refine ite_e e (fun e => ?_) (fun e => ?_)
  · rw [← Option.some.inj e]; exact fr_rf _ _
  · refine ite_e e (fun e => ?_) (fun e => ?_)
    · rw [← Option.some.inj e]; exact fr_rf _ _
    · refine ite_e e (fun e => ?_) (fun e => ?_)
      · rw [← Option.some.inj e]; exact fr_rf _ _
      · refine ite_e e (fun e => ?_) (fun e => ?_)
        · obtain ⟨c1, ec1, e⟩ := bd_s e
          have wc1 := fr_tr (fr_rf _ _) (fr_sub (T := SJm_told) (FJm_common (-1) h _ ec1) (by decide))
          rw [← Option.some.inj e]; exact wc1
        · refine ite_e e (fun e => ?_) (fun e => ?_)
          · obtain ⟨c2, ec2, e⟩ := bd_s e
            have wc2 := fr_tr (fr_rf _ _) (fr_sub (T := SJm_told) (FJm_common (-1) h _ ec2) (by decide))
            obtain ⟨c3, ec3, e⟩ := bd_s e
            have wc3 := fr_tr (wc2) (fr_sub (T := SJm_told) (FJm_placeOf c2.1 c2.2 _ ec3) (by decide))
            rw [← Option.some.inj e]; exact wc3
          · refine ite_e e (fun e => ?_) (fun e => ?_)
            · obtain ⟨c4, ec4, e⟩ := bd_s e
              have wc4 := fr_tr (fr_rf _ _) (fr_sub (T := SJm_told) (FJm_madeMany h _ ec4) (by decide))
              rw [← Option.some.inj e]; exact wc4
            · refine ite_e e (fun e => ?_) (fun e => ?_)
              · obtain ⟨c5, ec5, e⟩ := bd_s e
                have wc5 := fr_tr (fr_rf _ _) (fr_sub (T := SJm_told) (FJm_dearestCode h _ ec5) (by decide))
                have e := gd_e e
                rw [← Option.some.inj e]; exact wc5
              · obtain ⟨c6, ec6, e⟩ := bd_s e
                have wc6 := fr_tr (fr_rf _ _) (fr_sub (T := SJm_told) (FJm_toldOfAll v1 h _ ec6) (by decide))
                rw [← Option.some.inj e]; exact wc6
def SJyn_function : List Nat := [10, 11, 12, 13, 14, 15, 16, 17, 18, 19, 23, 25]
theorem FJyn_function (v1 : Int32) (v2 : Int32) (h : Hp) (o : Int32 × Hp) (e : Jyn_function v1 v2 h = some o) : Fm SJyn_function h o.2 := by
  obtain ⟨c1, ec1, e⟩ := bd_s e
  refine ite_e e (fun e => ?_) (fun e => ?_)
  · rw [← Option.some.inj e]; exact fr_rf _ _
  · obtain ⟨c2, ec2, e⟩ := bd_s e
    refine ite_e e (fun e => ?_) (fun e => ?_)
    · rw [← Option.some.inj e]; exact fr_rf _ _
    · refine ite_e e (fun e => ?_) (fun e => ?_)
      · obtain ⟨c3, ec3, e⟩ := bd_s e
        rw [← Option.some.inj e]; exact fr_rf _ _
      · refine ite_e e (fun e => ?_) (fun e => ?_)
        · obtain ⟨c4, ec4, e⟩ := bd_s e
          rw [← Option.some.inj e]; exact fr_rf _ _
        · refine ite_e e (fun e => ?_) (fun e => ?_)
          · obtain ⟨c5, ec5, e⟩ := bd_s e
            rw [← Option.some.inj e]; exact fr_rf _ _
          · refine ite_e e (fun e => ?_) (fun e => ?_)
            · obtain ⟨c6, ec6, e⟩ := bd_s e
              rw [← Option.some.inj e]; exact fr_rf _ _
            · refine ite_e e (fun e => ?_) (fun e => ?_)
              · obtain ⟨c7, ec7, e⟩ := bd_s e
                rw [← Option.some.inj e]; exact fr_rf _ _
              · refine ite_e e (fun e => ?_) (fun e => ?_)
                · obtain ⟨c8, ec8, e⟩ := bd_s e
                  have wc8 := fr_tr (fr_rf _ _) (fr_sub (T := SJyn_function) (FJyn_reckoned h _ ec8) (by decide))
                  obtain ⟨c9, ec9, e⟩ := bd_s e
                  rw [← Option.some.inj e]; exact wc8
                · rw [← Option.some.inj e]; exact fr_rf _ _
def SJm_traitsNow : List Nat := [37, 43]
theorem FJm_traitsNow (v1 : Int32) (h : Hp) (o : Int32 × Hp) (e : Jm_traitsNow v1 h = some o) : Fm SJm_traitsNow h o.2 := by
  obtain ⟨c1, ec1, e⟩ := bd_s e
  have wc1 := fr_tr (fr_rf _ _) (fr_sub (T := SJm_traitsNow) (FJm_layTraits h _ ec1) (by decide))
  have e := gd_e e
  rw [← Option.some.inj e]; exact wc1
def SJm_costNow : List Nat := [37, 46, 47, 48, 49, 50, 51]
theorem FJm_costNow (v1 : Int32) (h : Hp) (o : Int32 × Hp) (e : Jm_costNow v1 h = some o) : Fm SJm_costNow h o.2 := by
  obtain ⟨c1, ec1, e⟩ := bd_s e
  have wc1 := fr_tr (fr_rf _ _) (fr_sub (T := SJm_costNow) (FJm_layCosts h _ ec1) (by decide))
  have e := gd_e e
  rw [← Option.some.inj e]; exact wc1
def SJm_function : List Nat := [37, 43, 46, 47, 48, 49, 50, 51]
theorem FJm_function (v1 : Int32) (v2 : Int32) (h : Hp) (o : Int32 × Hp) (e : Jm_function v1 v2 h = some o) : Fm SJm_function h o.2 := by
  obtain ⟨c1, ec1, e⟩ := bd_s e
  refine ite_e e (fun e => ?_) (fun e => ?_)
  · rw [← Option.some.inj e]; exact fr_rf _ _
  · have e := gd_e e
    refine ite_e e (fun e => ?_) (fun e => ?_)
    · rw [← Option.some.inj e]; exact fr_rf _ _
    · refine ite_e e (fun e => ?_) (fun e => ?_)
      · obtain ⟨c2, ec2, e⟩ := bd_s e
        rw [← Option.some.inj e]; exact fr_rf _ _
      · refine ite_e e (fun e => ?_) (fun e => ?_)
        · obtain ⟨c3, ec3, e⟩ := bd_s e
          rw [← Option.some.inj e]; exact fr_rf _ _
        · refine ite_e e (fun e => ?_) (fun e => ?_)
          · obtain ⟨c4, ec4, e⟩ := bd_s e
            rw [← Option.some.inj e]; exact fr_rf _ _
          · refine ite_e e (fun e => ?_) (fun e => ?_)
            · obtain ⟨c5, ec5, e⟩ := bd_s e
              have wc5 := fr_tr (fr_rf _ _) (fr_sub (T := SJm_function) (FJm_traitsNow (h 38 (Int32.toNatClampNeg ((1 : Int32) + v1))) h _ ec5) (by decide))
              rw [← Option.some.inj e]; exact wc5
            · refine ite_e e (fun e => ?_) (fun e => ?_)
              · obtain ⟨c6, ec6, e⟩ := bd_s e
                rw [← Option.some.inj e]; exact fr_rf _ _
              · refine ite_e e (fun e => ?_) (fun e => ?_)
                · obtain ⟨c7, ec7, e⟩ := bd_s e
                  have wc7 := fr_tr (fr_rf _ _) (fr_sub (T := SJm_function) (FJm_costNow (h 38 (Int32.toNatClampNeg ((1 : Int32) + v1))) h _ ec7) (by decide))
                  rw [← Option.some.inj e]; exact wc7
                · rw [← Option.some.inj e]; exact fr_rf _ _
def SJpu_begin_1 : List Nat := [20]
theorem FJpu_begin_1 (v1 : Int32) (h : Hp) (o : Hp) (e : Jpu_begin_1 v1 h = some o) : Fm SJpu_begin_1 h o := by
  refine lt_e e fun h1 e qh1 => ?_
  have wh1 := fr_set (S := SJpu_begin_1) (fr_rf _ _) qh1 (by decide)
  obtain ⟨c2, ec2, e⟩ := bd_s e
  refine lt_e e fun h3 e qh3 => ?_
  have wh3 := fr_set (S := SJpu_begin_1) (wh1) qh3 (by decide)
  obtain ⟨c4, ec4, e⟩ := bd_s e
  refine lt_e e fun h5 e qh5 => ?_
  have wh5 := fr_set (S := SJpu_begin_1) (wh3) qh5 (by decide)
  rw [← Option.some.inj e]; exact wh5
def SJpu_first_1 : List Nat := [21]
theorem FJpu_first_1_L2_s (v1 : Int32) (h0 : Hp) (v2 : Int32) (h : Hp) (o : ((Int32 × Hp) ⊕ (Int32 × Hp))) (e : Jpu_first_1_L2 v1 v2 h = some o) (wh : Fm SJpu_first_1 h0 h) : sm o (fun s => Fm SJpu_first_1 h0 s.2) (fun t => Fm SJpu_first_1 h0 t.2) := by
  refine ite_e e (fun e => ?_) (fun e => ?_)
  · obtain ⟨c1, ec1, e⟩ := bd_s e
    obtain ⟨c2, ec2, e⟩ := bd_s e
    obtain ⟨c3, ec3, e⟩ := bd_s e
    have e := gd_e e
    refine lt_e e fun h4 e qh4 => ?_
    have wh4 := fr_set (S := SJpu_first_1) (wh) qh4 (by decide)
    rw [← Option.some.inj e]; exact wh4
  · rw [← Option.some.inj e]; exact wh
theorem FJpu_first_1_L2 (v1 : Int32) (n : Nat) (s0 : Int32 × Hp) (o : (Int32 × Hp)) (e : loopN n (fun s => Jpu_first_1_L2 v1 s.1 s.2) s0 = some o) : Fm SJpu_first_1 (s0.2) o.2 := by
  refine loop_F (fun s => Jpu_first_1_L2 v1 s.1 s.2) (fun s : Int32 × Hp => Fm SJpu_first_1 (s0.2) (s.2)) (fun o : (Int32 × Hp) => Fm SJpu_first_1 (s0.2) o.2) (fun s o e q => ?_) n s0 o e (fr_rf _ _)
  exact FJpu_first_1_L2_s v1 _ s.1 s.2 o e q
theorem FJpu_first_1 (v1 : Int32) (h : Hp) (o : Hp) (e : Jpu_first_1 v1 h = some o) : Fm SJpu_first_1 h o := by
  obtain ⟨t5x, et5, e⟩ := bd_s e
  have qt5 := FJpu_first_1_L2 v1 1000000 (0, h) _ et5
  skip
  skip
  have wt5 := fr_tr (fr_rf _ _) qt5
  rw [← Option.some.inj e]; exact wt5
def SJpu_second_1 : List Nat := [20]
theorem FJpu_second_1 (v1 : Int32) (h : Hp) (o : Hp) (e : Jpu_second_1 v1 h = some o) : Fm SJpu_second_1 h o := by
  obtain ⟨c1, ec1, e⟩ := bd_s e
  refine lt_e e fun h2 e qh2 => ?_
  have wh2 := fr_set (S := SJpu_second_1) (fr_rf _ _) qh2 (by decide)
  obtain ⟨c3, ec3, e⟩ := bd_s e
  refine lt_e e fun h4 e qh4 => ?_
  have wh4 := fr_set (S := SJpu_second_1) (wh2) qh4 (by decide)
  rw [← Option.some.inj e]; exact wh4
def SJwy_know : List Nat := [22, 23]
theorem FJwy_know_J63 (v1 v2 v3 v4 s1 s2 : Int32) (h0 : Hp) (h : Hp) (o : (Hp)) (e : Jwy_know_J63 v1 v2 v3 v4 s1 s2 h = some o) (wh : Fm SJwy_know h0 h) : Fm SJwy_know h0 o := by
  have e := gd_e e
  refine lt_e e fun h6 e qh6 => ?_
  have wh6 := fr_set (S := SJwy_know) (wh) qh6 (by decide)
  obtain ⟨c7, ec7, e⟩ := bd_s e
  refine ite_e e (fun e => ?_) (fun e => ?_)
  · have e := gd_e e
    refine lt_e e fun h8 e qh8 => ?_
    have wh8 := fr_set (S := SJwy_know) (wh6) qh8 (by decide)
    rw [← Option.some.inj e]; exact wh8
  · have e := gd_e e
    refine lt_e e fun h9 e qh9 => ?_
    have wh9 := fr_set (S := SJwy_know) (wh6) qh9 (by decide)
    rw [← Option.some.inj e]; exact wh9
theorem FJwy_know_J37 (v1 v2 v3 v4 s1 s2 : Int32) (h0 : Hp) (h : Hp) (o : (Hp)) (e : Jwy_know_J37 v1 v2 v3 v4 s1 s2 h = some o) (wh : Fm SJwy_know h0 h) : Fm SJwy_know h0 o := by
  have e := gd_e e
  refine lt_e e fun h4 e qh4 => ?_
  have wh4 := fr_set (S := SJwy_know) (wh) qh4 (by decide)
  obtain ⟨c5, ec5, e⟩ := bd_s e
  refine ite_e e (fun e => ?_) (fun e => ?_)
  · exact FJwy_know_J63 v1 v2 v3 v4 (((3 : Int32) * v1) + (1 : Int32)) v3 _ h4 o e (wh4)
  · exact FJwy_know_J63 v1 v2 v3 v4 (((3 : Int32) * v1) + (1 : Int32)) (-1) _ h4 o e (wh4)
theorem FJwy_know (v1 : Int32) (v2 : Int32) (v3 : Int32) (v4 : Int32) (h : Hp) (o : Hp) (e : Jwy_know v1 v2 v3 v4 h = some o) : Fm SJwy_know h o := by
  obtain ⟨c1, ec1, e⟩ := bd_s e
  refine ite_e e (fun e => ?_) (fun e => ?_)
  · rw [← Option.some.inj e]; exact fr_rf _ _
  · have e := gd_e e
    refine lt_e e fun h2 e qh2 => ?_
    have wh2 := fr_set (S := SJwy_know) (fr_rf _ _) qh2 (by decide)
    obtain ⟨c3, ec3, e⟩ := bd_s e
    refine ite_e e (fun e => ?_) (fun e => ?_)
    · exact FJwy_know_J37 v1 v2 v3 v4 ((3 : Int32) * v1) v2 _ h2 o e (wh2)
    · exact FJwy_know_J37 v1 v2 v3 v4 ((3 : Int32) * v1) (-1) _ h2 o e (wh2)
def SJwy_lookForSecond : List Nat := [20, 22, 23]
theorem FJwy_lookForSecond_J62 (v1 v2 v3 v4 s0 : Int32) (h0 : Hp) (h : Hp) (o : ((Int32 × Hp) ⊕ ((Int32 × Hp) ⊕ (Int32 × Hp)))) (e : Jwy_lookForSecond_J62 v1 v2 v3 v4 s0 h = some o) (wh : Fm SJwy_lookForSecond h0 h) : sm o (fun s => Fm SJwy_lookForSecond h0 s.2) (fun q => sm q (fun t => Fm SJwy_lookForSecond h0 t.2) (fun r => Fm SJwy_lookForSecond h0 r.2)) := by
  refine ite_e e (fun e => ?_) (fun e => ?_)
  · rw [← Option.some.inj e]; exact wh
  · obtain ⟨c4, ec4, e⟩ := bd_s e
    have wc4 := fr_tr (wh) (fr_sub (T := SJwy_lookForSecond) (FJwy_know v1 v2 v4 s0 h _ ec4) (by decide))
    rw [← Option.some.inj e]; exact wc4
theorem FJwy_lookForSecond_L3_s (v1 v2 v3 : Int32) (h0 : Hp) (v4 : Int32) (h : Hp) (o : ((Int32 × Hp) ⊕ ((Int32 × Hp) ⊕ (Int32 × Hp)))) (e : Jwy_lookForSecond_L3 v1 v2 v3 v4 h = some o) (wh : Fm SJwy_lookForSecond h0 h) : sm o (fun s => Fm SJwy_lookForSecond h0 s.2) (fun q => sm q (fun t => Fm SJwy_lookForSecond h0 t.2) (fun r => Fm SJwy_lookForSecond h0 r.2)) := by
  refine ite_e e (fun e => ?_) (fun e => ?_)
  · obtain ⟨c1, ec1, e⟩ := bd_s e
    refine ite_e e (fun e => ?_) (fun e => ?_)
    · rw [← Option.some.inj e]; exact wh
    · obtain ⟨c2, ec2, e⟩ := bd_s e
      have wc2 := fr_tr (wh) (fr_sub (T := SJwy_lookForSecond) (FJpu_second_1 v4 h _ ec2) (by decide))
      obtain ⟨c3, ec3, e⟩ := bd_s e
      refine ite_e e (fun e => ?_) (fun e => ?_)
      · exact FJwy_lookForSecond_J62 v1 v2 v3 v4 (-1) _ c2 o e (wc2)
      · obtain ⟨c5, ec5, e⟩ := bd_s e
        obtain ⟨c6, ec6, e⟩ := bd_s e
        exact FJwy_lookForSecond_J62 v1 v2 v3 v4 c6 _ c2 o e (wc2)
  · rw [← Option.some.inj e]; exact wh
theorem FJwy_lookForSecond_L3 (v1 v2 v3 : Int32) (n : Nat) (s0 : Int32 × Hp) (o : ((Int32 × Hp) ⊕ (Int32 × Hp))) (e : loopN n (fun s => Jwy_lookForSecond_L3 v1 v2 v3 s.1 s.2) s0 = some o) : sm o (fun t => Fm SJwy_lookForSecond (s0.2) t.2) (fun r => Fm SJwy_lookForSecond (s0.2) r.2) := by
  refine loop_F (fun s => Jwy_lookForSecond_L3 v1 v2 v3 s.1 s.2) (fun s : Int32 × Hp => Fm SJwy_lookForSecond (s0.2) (s.2)) (fun o : ((Int32 × Hp) ⊕ (Int32 × Hp)) => sm o (fun t => Fm SJwy_lookForSecond (s0.2) t.2) (fun r => Fm SJwy_lookForSecond (s0.2) r.2)) (fun s o e q => ?_) n s0 o e (fr_rf _ _)
  exact FJwy_lookForSecond_L3_s v1 v2 v3 _ s.1 s.2 o e q
theorem FJwy_lookForSecond (v1 : Int32) (v2 : Int32) (v3 : Int32) (h : Hp) (o : Int32 × Hp) (e : Jwy_lookForSecond v1 v2 v3 h = some o) : Fm SJwy_lookForSecond h o.2 := by
  obtain ⟨t7x, et7, e⟩ := bd_s e
  have qt7 := FJwy_lookForSecond_L3 v1 v2 v3 1000000 (0, h) _ et7
  rcases t7x with t7 | r7
  · have wt7 := fr_tr (fr_rf _ _) qt7
    rw [← Option.some.inj e]; exact wt7
  · rw [← Option.some.inj e]; exact fr_tr (fr_rf _ _) qt7
