/-! Calls: place, above, below, meet, join. -/
theorem MC_pl {h h' : Hp} (H : MC h) (p : pLaid h') (e : h' 37 16 = h 37 16) (f : h' 45 = h 45) : MC h' := by
  refine ⟨Or.inr p.1, Or.inr p, ?_⟩
  rcases H.2.2 with w | w
  · exact Or.inl (e.trans w)
  · exact Or.inr ⟨p, e.trans w.2.1, fun k hk => by rw [f]; exact w.2.2 k hk⟩
theorem MC_rl {h : Hp} (p : rLaid h) : MC h := ⟨Or.inr p.1.1, Or.inr p.1, Or.inr p⟩
theorem mdI_pl {h h' : Hp} {t : Ste} (g : ∀ j, j ≠ 12 → j ≠ 14 → j ≠ 16 → h' 37 j = h 37 j) (f : ∀ p, p ≠ 37 → p ≠ 43 → p ≠ 44 → p ≠ 45 → h' p = h p) (w : MC h') (H : mdI h t) : mdI h' t := by
  obtain ⟨s, ⟨m, T⟩, F, ⟨n, K, V⟩, sd, ⟨u, U⟩, ⟨G, I, E⟩⟩ := t
  obtain ⟨h1, h2, h3, h4, h5, h6, h7, h8⟩ := H
  have e : ∀ {p}, p ≠ 37 → p ≠ 43 → p ≠ 44 → p ≠ 45 → h' p = h p := fun a b c d => f _ a b c d
  have e3 : ∀ {k}, k ≠ 12 → k ≠ 14 → k ≠ 16 → h' 37 k = h 37 k := fun a b c => g _ a b c
  have e23 : h' 37 23 = h 37 23 := e3 (by decide) (by decide) (by decide)
  refine ⟨⟨rowM_fr (e (by decide) (by decide) (by decide) (by decide)) h1.1, ?_⟩, txM_fr (e3 (by decide) (by decide) (by decide)) (e (by decide) (by decide) (by decide) (by decide)) h2, (e3 (by decide) (by decide) (by decide)).trans h3, bkM_fr (e3 (by decide) (by decide) (by decide)) (e (by decide) (by decide) (by decide) (by decide)) (e (by decide) (by decide) (by decide) (by decide)) h4, (e3 (by decide) (by decide) (by decide)).trans h5, undM_fr (e (by decide) (by decide) (by decide) (by decide)) (e3 (by decide) (by decide) (by decide)) h6, imM_fr (e (by decide) (by decide) (by decide) (by decide)) (e (by decide) (by decide) (by decide) (by decide)) (e3 (by decide) (by decide) (by decide)) h7, w⟩
  rw [e23]
  rcases h1.2 with w | w
  · exact Or.inl w
  · exact Or.inr (MF_fr e23 (fun k => by rw [e (p := 46) (by decide) (by decide) (by decide) (by decide)]) (fun k => by rw [e (p := 47) (by decide) (by decide) (by decide) (by decide)]) (fun k => by rw [e (p := 48) (by decide) (by decide) (by decide) (by decide)]) (fun k => by rw [e (p := 49) (by decide) (by decide) (by decide) (by decide)]) w)
theorem inv_pl {h h' : Hp} {t : Ste} (ok : okSt t) (c : clI h t) (d : mdI h t) (g : ∀ j, j ≠ 12 → j ≠ 14 → j ≠ 16 → h' 37 j = h 37 j) (f : ∀ p, p ≠ 37 → p ≠ 43 → p ≠ 44 → p ≠ 45 → h' p = h p) (w : MC h') : Inv h' :=
  ⟨t, ok, clI_M (fun p q => f p (by omega) (by omega) (by omega) (by omega)) c, mdI_pl g f w d⟩
theorem inv_CM {h : Hp} (H : Inv h) : CP h ∧ MC h := by
  obtain ⟨⟨s, ⟨m, T⟩, F, ⟨n, K, V⟩, sd, ⟨u, U⟩, ⟨G, I, E⟩⟩, ok, c, d⟩ := H
  exact ⟨c.2.2.2.2.2.2.2.1, d.2.2.2.2.2.2.2⟩
theorem inv_p2 {h h' : Hp} (H : Inv h) (p : pLaid h') (g : ∀ j, j ≠ 12 → j ≠ 14 → h' 37 j = h 37 j) (f : ∀ p, p ≠ 37 → p ≠ 43 → p ≠ 44 → h' p = h p) : Inv h' := by
  have w := MC_pl (inv_CM H).2 p (g 16 (by decide) (by decide)) (f 45 (by decide) (by decide) (by decide))
  obtain ⟨t, ok, c, d⟩ := H
  exact inv_pl ok c d (fun j a b _ => g j a b) (fun p a b c _ => f p a b c) w
theorem pl_or (v : Int32) : (∃ k, k < 46 ∧ v = nI k) ∨ (v < 0 ∨ nI 46 ≤ v) := by
  by_cases q : v < 0
  · exact Or.inr (Or.inl q)
  · obtain ⟨k, hk, rfl⟩ := nI_of q
    by_cases z : k < 46
    · exact Or.inl ⟨k, z, rfl⟩
    · exact Or.inr (Or.inr (Int32.not_lt.mp (nI_nlt (by omega) hk)))
theorem one0 : ¬ (1 : Int32) = 0 := by decide
theorem n1_0 : ¬ nI 1 = 0 := by decide
theorem n0_0 : nI 0 = 0 := rfl
theorem place_inv {h : Hp} (v x : Int32) (H : Inv h) : ∃ r h2, Jyn_place v x h = some r ∧ Jm_place v x h = some (r, h2) ∧ Inv h2 := by
  obtain ⟨hP, hM⟩ := inv_CM H
  rcases pl_or v with ⟨k, hk, rfl⟩ | hv
  · obtain ⟨h', a1, a2, a3, a4⟩ := isPlace_yes hM.1 hM.2.1 hk
    have iv : Inv h' := inv_p2 H a2 a3 a4
    have cl := holdsP_yes hP hk
    have ib : ibB (nI k) 512 = true := ib_nI (by omega) (by omega)
    have kc : (nI k).toNatClampNeg = k := nI_clamp (by omega)
    have pk := a2.2.2 k hk
    have pl : plN k < 4096 := (pcB_at hk).1
    have C : ∀ z, Jyn_place (nI k) z h = (if z = 0 then bd (Jpl_setOf (nI k) h) fun c2 => some c2 else if z = 1 then bd (Jpl_setOf (nI k) h) fun c3 => bd (Jpl_countIn c3 h) fun c4 => some c4 else if z = 2 then bd (Jpl_countNext (nI k) 1 h) fun c5 => some c5 else if z = 3 then bd (Jpl_countNext (nI k) 0 h) fun c6 => some c6 else if z = 4 then bd (Jpl_rankOf (nI k) h) fun c7 => some c7 else some (-1000000002)) := fun z => by
      unfold Jyn_place
      rw [cl, bd_some, if_neg one0]
    have M : ∀ z, Jm_place (nI k) z h = (if z = 0 then some (nI (plN k), h') else if z = 1 then bd (Jm_inside (nI k) h') fun c2 => some (c2, h') else if z = 2 then if z = 2 then bd (Jm_neighbour (nI k) (-1) 1 h') fun c3 => some (c3, h') else bd (Jm_neighbour (nI k) (-1) 0 h') fun c4 => some (c4, h') else if z = 3 then if z = 2 then bd (Jm_neighbour (nI k) (-1) 1 h') fun c5 => some (c5, h') else bd (Jm_neighbour (nI k) (-1) 0 h') fun c6 => some (c6, h') else if z = 4 then bd (Jm_rankOf (nI k) h') fun c7 => some (c7.1, c7.2) else some ((-1000000002), h')) := fun z => by
      unfold Jm_place
      rw [a1, bd_some]
      dsimp only
      rw [if_neg n1_0, ib, cond_true, kc, pk]
    by_cases q0 : x = 0
    · refine ⟨nI (plN k), h', ?_, ?_, iv⟩
      · rw [C, if_pos q0, setOf_at hP hk, bd_some]
      · rw [M, if_pos q0]
    by_cases q1 : x = 1
    · refine ⟨nI (cntT (inT (plN k)) 256), h', ?_, ?_, iv⟩
      · rw [C, if_neg q0, if_pos q1, setOf_at hP hk, bd_some, countIn_at hP pl, bd_some]
      · rw [M, if_neg q0, if_pos q1, inside_at a2 hk, bd_some]
    by_cases q2 : x = 2
    · refine ⟨nI (cntT (nxT true k) 46), h', ?_, ?_, iv⟩
      · have e : Jpl_countNext (nI k) 1 h = _ := countNext_at hP true hk
        rw [C, if_neg q0, if_neg q1, if_pos q2, e, bd_some]
      · have e : Jm_neighbour (nI k) (-1) 1 h' = _ := neighbour_cnt a2 true hk
        rw [M, if_neg q0, if_neg q1, if_pos q2, if_pos q2, e, bd_some]
    by_cases q3 : x = 3
    · refine ⟨nI (cntT (nxT false k) 46), h', ?_, ?_, iv⟩
      · have e : Jpl_countNext (nI k) 0 h = _ := countNext_at hP false hk
        rw [C, if_neg q0, if_neg q1, if_neg q2, if_pos q3, e, bd_some]
      · have e : Jm_neighbour (nI k) (-1) 0 h' = _ := neighbour_cnt a2 false hk
        rw [M, if_neg q0, if_neg q1, if_neg q2, if_pos q3, if_neg q2, e, bd_some]
    by_cases q4 : x = 4
    · obtain ⟨h2, b1, b2, b3, b4⟩ := rankM_at a2 (inv_CM iv).2.2.2 hk
      obtain ⟨t, ok, c, d⟩ := iv
      refine ⟨nI (rkS (plN k)), h2, ?_, ?_, inv_pl ok c d b3 b4 (MC_rl b2)⟩
      · rw [C, if_neg q0, if_neg q1, if_neg q2, if_neg q3, if_pos q4, rankC_at hP hk, bd_some]
      · rw [M, if_neg q0, if_neg q1, if_neg q2, if_neg q3, if_pos q4, b1, bd_some]
    · refine ⟨-1000000002, h', ?_, ?_, iv⟩
      · rw [C, if_neg q0, if_neg q1, if_neg q2, if_neg q3, if_neg q4]
      · rw [M, if_neg q0, if_neg q1, if_neg q2, if_neg q3, if_neg q4]
  · obtain ⟨h', a1, a2, a3, a4⟩ := isPlace_no hM.1 hM.2.1 hv
    refine ⟨-1000000001, h', ?_, ?_, inv_p2 H a2 a3 a4⟩
    · unfold Jyn_place
      rw [holdsP_no hP hv, bd_some, if_pos rfl]
    · unfold Jm_place
      rw [a1, bd_some]
      dsimp only
      rw [if_pos n0_0]
theorem beside_inv {h : Hp} (up : Bool) (v x : Int32) (H : Inv h) : ∃ r h2, Jyn_nextPlace v x (nI (if up = true then 1 else 0)) h = some r ∧ Jm_beside v x (nI (if up = true then 1 else 0)) h = some (r, h2) ∧ Inv h2 := by
  obtain ⟨hP, hM⟩ := inv_CM H
  rcases pl_or v with ⟨k, hk, rfl⟩ | hv
  · obtain ⟨h', a1, a2, a3, a4⟩ := isPlace_yes hM.1 hM.2.1 hk
    have iv : Inv h' := inv_p2 H a2 a3 a4
    have cl := holdsP_yes hP hk
    by_cases q : x < 0
    · refine ⟨-1000000002, h', ?_, ?_, iv⟩
      · unfold Jyn_nextPlace
        rw [cl, bd_some, if_neg one0, if_pos q]
      · unfold Jm_beside
        rw [a1, bd_some]
        dsimp only
        rw [if_neg n1_0, if_pos q]
    · refine ⟨nthT (nxT up k) x 46 0 0, h', ?_, ?_, iv⟩
      · unfold Jyn_nextPlace
        rw [cl, bd_some, if_neg one0, if_neg q, next_at hP up hk, bd_some]
      · unfold Jm_beside
        rw [a1, bd_some]
        dsimp only
        rw [if_neg n1_0, if_neg q, neighbour_at a2 up hk q, bd_some]
  · obtain ⟨h', a1, a2, a3, a4⟩ := isPlace_no hM.1 hM.2.1 hv
    refine ⟨-1000000001, h', ?_, ?_, inv_p2 H a2 a3 a4⟩
    · unfold Jyn_nextPlace
      rw [holdsP_no hP hv, bd_some, if_pos rfl]
    · unfold Jm_beside
      rw [a1, bd_some]
      dsimp only
      rw [if_pos n0_0]
theorem above_inv {h : Hp} (v x : Int32) (H : Inv h) : ∃ r h2, Jyn_above v x h = some r ∧ Jm_above v x h = some (r, h2) ∧ Inv h2 := by
  obtain ⟨r, h2, a, b, c⟩ := beside_inv true v x H
  refine ⟨r, h2, ?_, ?_, c⟩
  · unfold Jyn_above
    exact (bd_of a).trans rfl
  · unfold Jm_above
    exact (bd_of b).trans rfl
theorem below_inv {h : Hp} (v x : Int32) (H : Inv h) : ∃ r h2, Jyn_below v x h = some r ∧ Jm_below v x h = some (r, h2) ∧ Inv h2 := by
  obtain ⟨r, h2, a, b, c⟩ := beside_inv false v x H
  refine ⟨r, h2, ?_, ?_, c⟩
  · unfold Jyn_below
    exact (bd_of a).trans rfl
  · unfold Jm_below
    exact (bd_of b).trans rfl
theorem meet_inv {h : Hp} (v x : Int32) (H : Inv h) : ∃ r h2, Jyn_meet v x h = some r ∧ Jm_meet v x h = some (r, h2) ∧ Inv h2 := by
  obtain ⟨hP, hM⟩ := inv_CM H
  rcases pl_or v with ⟨k, hk, rfl⟩ | hv
  · obtain ⟨h', a1, a2, a3, a4⟩ := isPlace_yes hM.1 hM.2.1 hk
    have iv : Inv h' := inv_p2 H a2 a3 a4
    have cl := holdsP_yes hP hk
    have hM' := (inv_CM iv).2
    rcases pl_or x with ⟨l, hl, rfl⟩ | hx
    · obtain ⟨h2, b1, b2, b3, b4⟩ := isPlace_yes hM'.1 hM'.2.1 hl
      have iv2 : Inv h2 := inv_p2 iv b2 b3 b4
      have hM2 := (inv_CM iv2).2
      obtain ⟨p1, p2, p3, p4, p5, p6, p7⟩ := pcD_at hk hl
      obtain ⟨h3, d1, d2, d3, d4⟩ := placeOf_at hM2.1 hM2.2.1 p5 p1
      refine ⟨nI (ixN (shD (plN k ||| plN l))), h3, ?_, ?_, inv_p2 iv2 d2 d3 d4⟩
      · unfold Jyn_meet
        rw [cl, bd_some, if_neg one0, holdsP_yes hP hl, bd_some, if_neg one0, setOf_at hP hk, bd_some, setOf_at hP hl, bd_some, nI_or, closure_at hP p6, bd_some, p2, numberOf_at hP p5 p1, bd_some]
      · unfold Jm_meet
        rw [a1, bd_some]
        dsimp only
        rw [if_neg n1_0, b1, bd_some]
        dsimp only
        rw [if_neg n1_0, ib_nI (i := k) (n := 512) (by omega) (by omega), cond_true, ib_nI (i := l) (n := 512) (by omega) (by omega), cond_true, nI_clamp (n := k) (by omega), nI_clamp (n := l) (by omega), b2.2.2 k hk, b2.2.2 l hl, nI_or, shut_at b2.1 p6, bd_some, d1, bd_some]
    · obtain ⟨h2, b1, b2, b3, b4⟩ := isPlace_no hM'.1 hM'.2.1 hx
      refine ⟨-1000000001, h2, ?_, ?_, inv_p2 iv b2 b3 b4⟩
      · unfold Jyn_meet
        rw [cl, bd_some, if_neg one0, holdsP_no hP hx, bd_some, if_pos rfl]
      · unfold Jm_meet
        rw [a1, bd_some]
        dsimp only
        rw [if_neg n1_0, b1, bd_some]
        dsimp only
        rw [if_pos n0_0]
  · obtain ⟨h', a1, a2, a3, a4⟩ := isPlace_no hM.1 hM.2.1 hv
    refine ⟨-1000000001, h', ?_, ?_, inv_p2 H a2 a3 a4⟩
    · unfold Jyn_meet
      rw [holdsP_no hP hv, bd_some, if_pos rfl]
    · unfold Jm_meet
      rw [a1, bd_some]
      dsimp only
      rw [if_pos n0_0]
theorem join_inv {h : Hp} (v x : Int32) (H : Inv h) : ∃ r h2, Jyn_join v x h = some r ∧ Jm_join v x h = some (r, h2) ∧ Inv h2 := by
  obtain ⟨hP, hM⟩ := inv_CM H
  rcases pl_or v with ⟨k, hk, rfl⟩ | hv
  · obtain ⟨h', a1, a2, a3, a4⟩ := isPlace_yes hM.1 hM.2.1 hk
    have iv : Inv h' := inv_p2 H a2 a3 a4
    have cl := holdsP_yes hP hk
    have hM' := (inv_CM iv).2
    rcases pl_or x with ⟨l, hl, rfl⟩ | hx
    · obtain ⟨h2, b1, b2, b3, b4⟩ := isPlace_yes hM'.1 hM'.2.1 hl
      have iv2 : Inv h2 := inv_p2 iv b2 b3 b4
      have hM2 := (inv_CM iv2).2
      obtain ⟨p1, p2, p3, p4, p5, p6, p7⟩ := pcD_at hk hl
      obtain ⟨h3, d1, d2, d3, d4⟩ := placeOf_at hM2.1 hM2.2.1 p4 p3
      refine ⟨nI (ixN (plN k &&& plN l)), h3, ?_, ?_, inv_p2 iv2 d2 d3 d4⟩
      · unfold Jyn_join
        rw [cl, bd_some, if_neg one0, holdsP_yes hP hl, bd_some, if_neg one0, setOf_at hP hk, bd_some, setOf_at hP hl, bd_some, nI_and, numberOf_at hP p4 p3, bd_some]
      · unfold Jm_join
        rw [a1, bd_some]
        dsimp only
        rw [if_neg n1_0, b1, bd_some]
        dsimp only
        rw [if_neg n1_0, ib_nI (i := k) (n := 512) (by omega) (by omega), cond_true, ib_nI (i := l) (n := 512) (by omega) (by omega), cond_true, nI_clamp (n := k) (by omega), nI_clamp (n := l) (by omega), b2.2.2 k hk, b2.2.2 l hl, nI_and, d1, bd_some]
    · obtain ⟨h2, b1, b2, b3, b4⟩ := isPlace_no hM'.1 hM'.2.1 hx
      refine ⟨-1000000001, h2, ?_, ?_, inv_p2 iv b2 b3 b4⟩
      · unfold Jyn_join
        rw [cl, bd_some, if_neg one0, holdsP_no hP hx, bd_some, if_pos rfl]
      · unfold Jm_join
        rw [a1, bd_some]
        dsimp only
        rw [if_neg n1_0, b1, bd_some]
        dsimp only
        rw [if_pos n0_0]
  · obtain ⟨h', a1, a2, a3, a4⟩ := isPlace_no hM.1 hM.2.1 hv
    refine ⟨-1000000001, h', ?_, ?_, inv_p2 H a2 a3 a4⟩
    · unfold Jyn_join
      rw [holdsP_no hP hv, bd_some, if_pos rfl]
    · unfold Jm_join
      rw [a1, bd_some]
      dsimp only
      rw [if_pos n0_0]
