/-! Switches, new cells, the JDK's two methods. -/
theorem swt_at : ∀ (l : List (Int32 × Nat)) (i : Nat) (x : Int32) (t d : Nat), l[i]? = some (x, t) → (∀ j, j < i → ∀ q, l[j]? = some q → q.1 ≠ x) → swt x l d = t
  | [], i, _, _, _, h, _ => by simp at h
  | (k, u) :: r, 0, x, t, d, h, _ => by
    simp only [List.getElem?_cons_zero, Option.some.injEq, Prod.mk.injEq] at h
    simp only [swt]
    rw [if_pos h.1.symm, h.2]
  | (k, u) :: r, i + 1, x, t, d, h, hn => by
    simp only [List.getElem?_cons_succ] at h
    have h0 := hn 0 (Nat.succ_pos i) (k, u) rfl
    simp only [swt]
    rw [if_neg (fun e => h0 e.symm)]
    exact swt_at r i x t d h (fun j hj q hq => hn (j + 1) (Nat.succ_lt_succ hj) q (by simpa using hq))
theorem swt_no : ∀ (l : List (Int32 × Nat)) (x : Int32) (d : Nat), (∀ q ∈ l, q.1 ≠ x) → swt x l d = d
  | [], _, _, _ => rfl
  | (k, u) :: r, x, d, h => by
    have h0 := h (k, u) List.mem_cons_self
    simp only [swt]
    rw [if_neg (fun e => h0 e.symm)]
    exact swt_no r x d (fun q hq => h q (List.mem_cons_of_mem _ hq))
theorem ofI_toI {z : Int} (h1 : -2147483648 ≤ z) (h2 : z ≤ 2147483647) : (Int32.ofInt z).toInt = z := by
  rw [Int32.toInt_ofInt, show Int32.size = 4294967296 from rfl]
  rw [Int.bmod_eq_of_le (by omega) (by omega)]
set_option maxHeartbeats 1000000 in
theorem x_tableswitch {X : CT} {L : Nat} {xs : Nat → Int32} {k pc np a b c : Nat} {v : Int32} {w : Int64} {tbl : List (Int32 × Nat)} {lv lv' : List (Nat × Value)} {st st' : List Value} {lay lay' : Lay} {h h' : Hp} {pc' : Nat} {d lo hi : Int} {offs : Array Int} (hC : CxT X k) (hd : decode (mC k) pc = .ok (.tableswitch d lo hi offs, np - pc)) (hj : okJ k pc a b c v w tbl (.tableswitch d lo hi offs) = true) (hx : ex L xs k pc lv st lay h np a b v w tbl (.tableswitch d lo hi offs) = some (.inl (true, pc', lv', st', lay', h'))) (ho : Ok X k pc' lv' st' lay' h') : Ok X k pc lv st lay h := by
  obtain ⟨p, l, e, R, s, m, args, below, meth, cc, D, ca, z, b0, l0, s0, Q⟩ := X
  obtain ⟨hk, hxx, hbb, hml, hown, hts, hnw, hini, hfr, hlo, hK⟩ := id hC
  simp only [okJ, Bool.and_eq_true, decide_eq_true_eq] at hj
  obtain ⟨⟨⟨hd1, hd2, hd3, hd4⟩, hlen⟩, hall⟩ := hj
  have hent : ∀ i, i < offs.size → (tbl[i]?).map Prod.fst = some (Int32.ofInt (lo + i)) ∧ (tbl[i]?).map (fun q => (q.2 : Int)) = (offs[i]?).map (fun o => (pc : Int) + o) := fun i hi => by
    have := List.all_eq_true.mp hall i (List.mem_range.mpr hi)
    simpa only [decide_eq_true_eq] using this
  obtain ⟨x, r, rfl, hy⟩ := pI_s hx
  obtain ⟨-, rfl, rfl, rfl, rfl, rfl⟩ := nx_s hy
  intro H locs ls hl hP hS
  have hw := ho H locs ls hl hP hS
  have key : ∀ i q, tbl[i]? = some q → i < offs.size ∧ q.1.toInt = lo + i := fun i q hq => by
    have hi : i < offs.size := by rw [← hlen]; exact lt_of_at hq
    have h1 := (hent i hi).1
    rw [hq] at h1
    simp only [Option.map_some, Option.some.injEq] at h1
    rw [h1]
    exact ⟨hi, ofI_toI (by omega) (by omega)⟩
  by_cases hin : x.toInt < lo ∨ hi < x.toInt
  · rw [swt_no tbl x a (fun q hq => by
      obtain ⟨i, hi⟩ := List.getElem?_of_mem hq
      obtain ⟨g1, g2⟩ := key i q hi
      intro g
      rw [g] at g2
      omega)] at hw
    exact lv_tableOut hxx hbb hd hin hd1 hw
  · have hin1 : ¬ x.toInt < lo := fun g => hin (Or.inl g)
    have hin2 : ¬ hi < x.toInt := fun g => hin (Or.inr g)
    have hi : (x.toInt - lo).toNat < offs.size := by omega
    have h1 := hent _ hi
    have hti : (x.toInt - lo).toNat < tbl.length := by rw [hlen]; exact hi
    rw [List.getElem?_eq_getElem hti, Array.getElem?_eq_getElem hi] at h1
    simp only [Option.map_some, Option.some.injEq] at h1
    have hx1 : tbl[(x.toInt - lo).toNat].1 = x := by
      rw [h1.1, show lo + ((x.toInt - lo).toNat : Int) = x.toInt by omega, Int32.ofInt_toInt]
    have hs : swt x tbl a = tbl[(x.toInt - lo).toNat].2 := swt_at tbl (x.toInt - lo).toNat x _ a (by rw [List.getElem?_eq_getElem hti]; exact congrArg some (Prod.ext hx1 rfl)) (fun j hj q hq => by
      obtain ⟨g1, g2⟩ := key j q hq
      intro g
      rw [g] at g2
      omega)
    rw [hs] at hw
    exact lv_tableIn hxx hbb hd hin1 hin2 (Array.getElem?_eq_getElem hi) h1.2.symm hw
theorem off_swt : ∀ (ps : List (Int × Int)) (tbl : List (Int32 × Nat)) (pc : Nat) (d : Int) (a : Nat) (x : Int32), (pc : Int) + d = (a : Int) → tbl.map (fun q => (q.1.toInt, (q.2 : Int))) = ps.map (fun q => (q.1, (pc : Int) + q.2)) → (pc : Int) + Op.lookupswitch.offset ps d x.toInt = (swt x tbl a : Nat)
  | [], [], _, _, _, _, hd, _ => hd
  | [], _ :: _, _, _, _, _, _, h => by simp at h
  | _ :: _, [], _, _, _, _, _, h => by simp at h
  | (k, o) :: ps, (k', t) :: tbl, pc, d, a, x, hd, h => by
    simp only [List.map_cons, List.cons.injEq, Prod.mk.injEq] at h
    obtain ⟨⟨h1, h2⟩, h3⟩ := h
    by_cases hx : x = k'
    · simp only [swt]
      rw [Op.lookupswitch.offset_cons, if_pos (by rw [hx, h1]), if_pos hx, h2]
    · rw [lv_osw hx h1]
      simp only [swt]
      rw [if_neg hx]
      exact off_swt ps tbl pc d a x hd h3
theorem x_lookupswitch {X : CT} {L : Nat} {xs : Nat → Int32} {k pc np a b c : Nat} {v : Int32} {w : Int64} {tbl : List (Int32 × Nat)} {lv lv' : List (Nat × Value)} {st st' : List Value} {lay lay' : Lay} {h h' : Hp} {pc' : Nat} {d : Int} {ps : Array (Int × Int)} (hC : CxT X k) (hd : decode (mC k) pc = .ok (.lookupswitch d ps, np - pc)) (hj : okJ k pc a b c v w tbl (.lookupswitch d ps) = true) (hx : ex L xs k pc lv st lay h np a b v w tbl (.lookupswitch d ps) = some (.inl (true, pc', lv', st', lay', h'))) (ho : Ok X k pc' lv' st' lay' h') : Ok X k pc lv st lay h := by
  obtain ⟨p, l, e, R, s, m, args, below, meth, cc, D, ca, z, b0, l0, s0, Q⟩ := X
  obtain ⟨hk, hxx, hbb, hml, hown, hts, hnw, hini, hfr, hlo, hK⟩ := id hC
  simp only [okJ, Bool.and_eq_true, decide_eq_true_eq] at hj
  obtain ⟨⟨hd1, hp⟩, he⟩ := hj
  obtain ⟨x, r, rfl, hy⟩ := pI_s hx
  obtain ⟨-, rfl, rfl, rfl, rfl, rfl⟩ := nx_s hy
  exact fun H locs ls hl hP hS => lv_lookup hxx hbb hd hp rfl (off_swt ps.toList tbl pc d a x hd1 he) (ho H locs ls hl hP hS)
def flOk : Nat → Bool := fun a => Nat.beq (mFl a).length (vN a) && (List.range (vN a)).all fun j => match nth (mFl a) j with
  | some none => decide (defaultValue (vTy a j) = .int 0)
  | some (some u) => decide (u = .null) && decide (defaultValue (vTy a j) = .null)
  | none => false
theorem flOk_a : ((List.range 9).all flOk) = true := by decide +kernel
theorem fl_new {z b a i : Nat} {h : Hp} (ha : a < 9) : (mFl a).length = vN a ∧ ∀ j, j < vN a → defaultValue (vTy a j) = vp_V (enF z b (hnew h i) i (mFl a)) j := by
  have h1 := List.all_eq_true.mp flOk_a a (List.mem_range.mpr ha)
  simp only [flOk, Bool.and_eq_true] at h1
  refine ⟨Nat.eq_of_beq_eq_true h1.1, fun j hj => ?_⟩
  have h2 := List.all_eq_true.mp h1.2 j (List.mem_range.mpr hj)
  unfold vp_V
  rw [List.getD_eq_getElem?_getD, enF_at]
  revert h2
  cases hn : nth (mFl a) j with
  | none => simp
  | some o =>
    rw [nth_some hn]
    cases o with
    | none =>
      intro h2
      simp only [decide_eq_true_eq] at h2
      rw [h2]
      simp [hnew]
    | some u =>
      intro h2
      simp only [Bool.and_eq_true, decide_eq_true_eq] at h2
      rw [h2.2, h2.1]
      rfl
theorem hnew_ne {h : Hp} {i j : Nat} (q : j ≠ i) : hnew h i j = h j := by simp [hnew, q]
theorem hp_push {z b : Nat} {D : va_G} {ca : Bool → ClassId} {lay : Lay} {h : Hp} {H H1 : Heap} {e : LE} (hP : HP z b D ca lay h H) (he : va_at D vwCl (enc z b ca (hnew h lay.length) lay.length e) H1) (hz : H1.size = H.size + 1) (ho : ∀ q, q < H.size → H1[q]? = H[q]?) : HP z b D ca (lay ++ [e]) (hnew h lay.length) H1 := by
  refine ⟨?_, by rw [hz, hP.2, List.length_append]; rfl⟩
  rw [← wls_push (z := z) (b := b) (ca := ca) (lay := lay) (h := h) (h' := hnew h lay.length) e (fun j hj => hnew_ne hj)]
  refine (hP.1.kept fun k x hx => ho x.1 ((hP.1 k x hx).lt)).app fun k x hx => ?_
  have h0 : k < 1 := lt_of_at hx
  rw [show k = 0 by omega] at hx
  cases hx
  exact he
theorem va_S.grow {A : Nat → Prop} {H0 H H1 : Heap} {locs : List Loc} (hS : va_S A H0 H locs) (hz : H1.size = H.size + 1) (ho : ∀ q, q < H.size → H1[q]? = H[q]?) : va_S A H0 H1 locs :=
  ⟨Nat.le_trans hS.1 (by omega), fun x h1 h2 => (ho x (Nat.lt_of_lt_of_le h1 hS.1)).trans (hS.2.1 x h1 h2), hS.2.2⟩
set_option maxHeartbeats 1000000 in
theorem x_new {X : CT} {L : Nat} {xs : Nat → Int32} {k pc np a b c : Nat} {v : Int32} {w : Int64} {tbl : List (Int32 × Nat)} {lv lv' : List (Nat × Value)} {st st' : List Value} {lay lay' : Lay} {h h' : Hp} {pc' : Nat} {i : Nat} (hC : CxT X k) (hd : decode (mC k) pc = .ok (.new i, np - pc)) (hn : np = pc + lenI (.new i)) (hj : okJ k pc a b c v w tbl (.new i) = true) (hx : ex L xs k pc lv st lay h np a b v w tbl (.new i) = some (.inl (true, pc', lv', st', lay', h'))) (hR : RoT X lay lay') (ho : Ok X k pc' lv' st' lay' h') : Ok X k pc lv st lay h := by
  obtain ⟨p, l, e, R, s, m, args, below, meth, cc, D, ca, z, b0, l0, s0, Q⟩ := X
  obtain ⟨hk, hxx, hbb, hml, hown, hts, hnw, hini, hfr, hlo, hK⟩ := id hC
  subst hn
  rw [Nat.add_sub_cancel_left] at hd
  simp only [okJ, Bool.and_eq_true] at hj
  obtain ⟨⟨⟨ha, hw1⟩, hw2⟩, hw3⟩ := hj
  have ha := ble_lt ha
  have g1 : Cond.classLink (cN (mCi k)) i (cN a) ∈ gws := gw_in (wAt_in hw1) rfl
  have g2 : Cond.instantiable (cN a) (vN a) ∈ gws := gw_in (wAt_in hw2) rfl
  have g3 : Cond.initialized (cN a) ∈ gws := gw_in (wAt_in hw3) rfl
  obtain ⟨-, rfl, rfl, rfl, rfl, rfl⟩ := nx_s hx
  obtain ⟨r1, r2, r3, r4⟩ := hR
  have hsz := (fl_new (z := z) (b := b0) (h := h) (i := lay.length) ha)
  rw [List.length_append] at r3
  rw [szl_app] at r4
  simp only [List.length_cons, List.length_nil, szE, hsz.1] at r3 r4
  intro H locs ls hl hP hS
  have hKn := hK.1 a _ (vw_at a ha)
  refine W.newcK (own := cN (mCi k)) hxx hbb hown (hts _ g1) (hts _ g2) (hts _ g3) rfl hd (by omega) (by omega) hKn.2.1 rfl fun H1 kC hkC e1 z1 o1 => ?_
  have hP1 : HP z b0 D ca (lay ++ [.inl (a, mFl a)]) (hnew h lay.length) H1 := by
    refine hp_push hP ⟨_, vw_at a ha, ?_⟩ z1 o1
    rw [enc_o]
    rw [hP.2] at e1
    exact (u_born (vTy a) hts (uws_in ha) hKn hkC e1 (vT_ty a ha)).to hsz.2
  have hw9 := ho H1 locs ls hl hP1 (hS.grow z1 o1)
  rw [List.length_append, szl_app, show szE (.inl (a, mFl a)) = vN a from hsz.1] at hw9
  simp only [List.length_cons, List.length_nil] at hw9
  rw [show lay.length + (0 + 1) - l0 = lay.length - l0 + 1 by omega, show szl lay + vN a - s0 = szl lay - s0 + vN a by omega] at hw9
  rw [hP.2]
  exact hw9
theorem vp_def {ca : ClassId} {n : Nat} {f : Nat → Int32} (hf : ∀ j, f j = 0) {ty : FieldType} (hd : defaultValue ty = .int 0) : vp_cell ca (n, .inl f) = arrV ca n (fun _ => defaultValue ty) := by
  rw [vp_cell_i]
  congr 1
  funext j
  rw [hf, hd]
set_option maxHeartbeats 1000000 in
theorem x_newarray {X : CT} {L : Nat} {xs : Nat → Int32} {k pc np a b c : Nat} {v : Int32} {w : Int64} {tbl : List (Int32 × Nat)} {lv lv' : List (Nat × Value)} {st st' : List Value} {lay lay' : Lay} {h h' : Hp} {pc' : Nat} {t : ArrayType} (hC : CxT X k) (hd : decode (mC k) pc = .ok (.newarray t, np - pc)) (hn : np = pc + lenI (.newarray t)) (hj : okJ k pc a b c v w tbl (.newarray t) = true) (hx : ex L xs k pc lv st lay h np a b v w tbl (.newarray t) = some (.inl (true, pc', lv', st', lay', h'))) (hR : RoT X lay lay') (ho : Ok X k pc' lv' st' lay' h') : Ok X k pc lv st lay h := by
  obtain ⟨p, l, e, R, s, m, args, below, meth, cc, D, ca, z, b0, l0, s0, Q⟩ := X
  obtain ⟨hk, hxx, hbb, hml, hown, hts, hnw, hini, hfr, hlo, hK⟩ := id hC
  subst hn
  rw [Nat.add_sub_cancel_left] at hd
  obtain ⟨n, r, rfl, hy⟩ := pI_s hx
  obtain ⟨hg, rfl, rfl, rfl, rfl, rfl⟩ := nx_s hy
  simp only [Bool.and_eq_true, Bool.not_eq_true', decide_eq_false_iff_not] at hg
  have hN : n.toNatClampNeg ≤ 65536 := Nat.le_of_ble_eq_true hg.2
  obtain ⟨r1, r2, r3, r4⟩ := hR
  rw [List.length_append] at r3
  rw [szl_app] at r4
  simp only [List.length_cons, List.length_nil, szE] at r3 r4
  have hbig : 65536 * 8 ≤ 536870912 := by decide
  have main : ∀ (ty : FieldType) (q : Bool), newarray.typeOf t = ty → defaultValue ty = .int 0 → tZ t = q → Cond.arrayClass ty ∈ gws → componentBytes ty ≤ 8 → s.vm.findClass ("[" ++ ty.toString) = some (ca q) → Ok (p, l, e, R, s, m, args, below, meth, cc, D, ca, z, b0, l0, s0, Q) k pc lv' (.int n :: r) lay h := by
    intro ty q h1 h2 h3 h4 h5 h6
    subst h1
    intro H locs ls hl hP hS
    have hby : n.toNatClampNeg * componentBytes (newarray.typeOf t) ≤ 536870912 := Nat.le_trans (Nat.mul_le_mul hN h5) hbig
    refine va_newaK (N := n.toNatClampNeg) (n := n) (h := H.size)  hxx hbb (hts _ h4) rfl hd rfl hg.1 rfl hby (by omega) (by omega) rfl fun H1 cA e1 z1 o1 hAr hNm => ?_
    have hcA : cA = ca q := Option.some.inj (hNm.symm.trans h6)
    subst hcA
    have hP1 : HP z b0 D ca (lay ++ [.inr (q, n.toNatClampNeg)]) (hnew h lay.length) H1 := by
      refine hp_push hP ?_ z1 o1
      rw [hP.2] at e1
      show H1[z + lay.length]? = some (vp_cell _ _)
      rw [vp_def (ty := newarray.typeOf t) (fun j => by simp [hnew]) h2]
      exact e1
    have hw9 := ho H1 locs ls hl (by rw [h3]; exact hP1) (hS.grow z1 o1)
    rw [List.length_append, szl_app] at hw9
    simp only [List.length_cons, List.length_nil, szE] at hw9
    rw [show lay.length + (0 + 1) - l0 = lay.length - l0 + 1 by omega, show szl lay + n.toNatClampNeg - s0 = szl lay - s0 + n.toNatClampNeg by omega] at hw9
    rw [hP.2]
    exact hw9
  cases t <;> first
    | exact main .int false rfl rfl rfl (gw_in w_ai rfl) (by decide) (hK.2 0 _ rfl).2
    | exact main .boolean true rfl rfl rfl (gw_in w_az rfl) (by decide) (hK.2 1 _ rfl).2
    | (simp [okJ] at hj; done)
