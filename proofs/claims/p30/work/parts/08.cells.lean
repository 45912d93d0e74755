/-! Cells: fields, arrays, new ones; switches. -/
def enF (z b : Nat) (h : Hp) (i : Nat) (fl : List (Option Value)) : List Value := fl.mapIdx (fun k o => match o with
    | none => .int (h i k)
    | some v => cv z b v)
theorem enc_o (z b : Nat) (ca : Bool → ClassId) (h : Hp) (i ci : Nat) (fl : List (Option Value)) : enc z b ca h i (.inl (ci, fl)) = (z + i, .inr (ci, enF z b h i fl)) := rfl
theorem wls_o {z b : Nat} {ca : Bool → ClassId} {lay : Lay} {h : Hp} {i ci : Nat} {fl : List (Option Value)} (e : lay[i]? = some (.inl (ci, fl))) : (wls z b ca lay h)[i]? = some (z + i, .inr (ci, enF z b h i fl)) := by
  rw [wls_at, e]; rfl
theorem wls_a {z b : Nat} {ca : Bool → ClassId} {lay : Lay} {h : Hp} {i n : Nat} {q : Bool} (e : lay[i]? = some (.inr (q, n))) : (wls z b ca lay h)[i]? = some (z + i, .inl (ca q, n, .inl (h i))) := by
  rw [wls_at, e]; rfl
theorem enF_at {z b : Nat} {h : Hp} {i k : Nat} {fl : List (Option Value)} : (enF z b h i fl)[k]? = (fl[k]?).map fun o => match o with
    | none => .int (h i k)
    | some v => cv z b v := by
  simp [enF, List.getElem?_mapIdx]
theorem enF_len {z b : Nat} {h : Hp} {i : Nat} {fl : List (Option Value)} : (enF z b h i fl).length = fl.length := by simp [enF]
theorem lt_of_at {α : Type} {l : List α} {i : Nat} {a : α} (h : l[i]? = some a) : i < l.length := (List.getElem?_eq_some_iff.mp h).1
theorem enF_int {z b : Nat} {h : Hp} {i k : Nat} {y : Int32} {fl : List (Option Value)} (e : fl[k]? = some none) : (enF z b h i fl).set k (.int y) = enF z b (hset h i k y) i fl := by
  apply List.ext_getElem?
  intro j
  by_cases hj : k = j
  · subst hj
    rw [List.getElem?_set_self (by rw [enF_len]; exact lt_of_at e), enF_at, e]
    simp [hset, upd]
  · rw [List.getElem?_set_ne hj, enF_at, enF_at]
    cases fl[j]? with
    | none => rfl
    | some o => cases o with
      | none => simp [hset, upd, Ne.symm hj]
      | some u => rfl
theorem enF_ref {z b : Nat} {h : Hp} {i k q : Nat} {fl : List (Option Value)} (hk : k < fl.length) : (enF z b h i fl).set k (.ref (z + q)) = enF z b h i (fl.set k (some (.ref q))) := by
  apply List.ext_getElem?
  intro j
  by_cases hj : k = j
  · subst hj
    rw [List.getElem?_set_self (by rw [enF_len]; exact hk), enF_at, List.getElem?_set_self hk]
    rfl
  · rw [List.getElem?_set_ne hj, enF_at, enF_at, List.getElem?_set_ne hj]
theorem hset_ne {h : Hp} {i k j : Nat} {x : Int32} (q : j ≠ i) : hset h i k x j = h j := by simp [hset, q]
theorem hset_eq {h : Hp} {i k : Nat} {x : Int32} : hset h i k x i = upd (h i) k x := by simp [hset]
theorem lay_same {lay : Lay} {i : Nat} {e : LE} (h : lay[i]? = some e) : lay.set i e = lay := by
  apply List.ext_getElem?
  intro j
  by_cases hj : i = j
  · subst hj; rw [List.getElem?_set_self (lt_of_at h), h]
  · rw [List.getElem?_set_ne hj]
theorem ble_lt {a b : Nat} (h : Nat.ble (a + 1) b = true) : a < b := Nat.le_of_ble_eq_true h
def inWl (w : WC) : Bool := wl.any fun u => decide (u = w)
theorem inWl_in {w : WC} (h : inWl w = true) : dec w ∈ lw_tbl := by
  obtain ⟨u, hu, e⟩ := List.any_eq_true.mp h
  rw [← of_decide_eq_true e, wl_eq]
  exact List.mem_map_of_mem hu
theorem lays_ok : ((List.range 9).all fun a => (List.range (vN a)).all fun b => inWl (16, a, b, 0, 0, 0)) = true := by decide +kernel
theorem lay_in {a b : Nat} (ha : a < 9) (hb : b < vN a) : u_lay (cN a) (vT a) b ∈ gws := by
  have h1 := List.all_eq_true.mp (List.all_eq_true.mp lays_ok a (List.mem_range.mpr ha)) b (List.mem_range.mpr hb)
  have h2 : u_lay (cN a) (vT a) b ∈ lw_tbl := inWl_in h1
  refine gw_in h2 ?_
  unfold u_lay
  split <;> rfl
theorem uws_in {a : Nat} (ha : a < 9) : ∀ w ∈ u_ws (cN a) (vT a) (vN a), w ∈ gws := by
  intro w hw
  obtain ⟨i, hi, rfl⟩ := List.mem_map.mp hw
  exact lay_in ha (List.mem_range.mp hi)
theorem vsz_lt {z i : Nat} (H : Heap) : z ≤ z + i := Nat.le_add_right z i
set_option maxHeartbeats 1000000 in
theorem x_getfield {X : CT} {L : Nat} {xs : Nat → Int32} {k pc np a b c : Nat} {v : Int32} {w : Int64} {tbl : List (Int32 × Nat)} {lv lv' : List (Nat × Value)} {st st' : List Value} {lay lay' : Lay} {h h' : Hp} {pc' : Nat} {i : Nat} (hC : CxT X k) (hd : decode (mC k) pc = .ok (.getfield i, np - pc)) (hn : np = pc + lenI (.getfield i)) (hj : okJ k pc a b c v w tbl (.getfield i) = true) (hx : ex L xs k pc lv st lay h np a b v w tbl (.getfield i) = some (.inl (true, pc', lv', st', lay', h'))) (hsc : ScT X L xs k) (hR : RoT X lay lay') (ho : Ok X k pc' lv' st' lay' h') : Ok X k pc lv st lay h := by
  obtain ⟨p, l, e, R, s, m, args, below, meth, cc, D, ca, z, b0, l0, s0, Q⟩ := X
  obtain ⟨hk, hxx, hbb, hml, hown, hts, hnw, hini, hfr, hlo, hK⟩ := id hC
  subst hn
  rw [Nat.add_sub_cancel_left] at hd
  simp only [okJ, Bool.and_eq_true] at hj
  obtain ⟨⟨ha, hb⟩, hw⟩ := hj
  have ha := ble_lt ha
  have hb := ble_lt hb
  have hg : Cond.fieldLink (cN (mCi k)) i (vT a b).1 (vT a b).2.1 (vT a b).2.2.1 ∈ gws := gw_in (wAt_in hw) rfl
  obtain ⟨q, r, rfl, hx⟩ := pR_s hx
  obtain ⟨fl, hl, hx⟩ := ob_s hx
  rcases gf_s hx with ⟨e, hx⟩ | ⟨u, e, hx⟩
  · obtain ⟨-, rfl, rfl, rfl, rfl, rfl⟩ := nx_s hx
    exact fun H locs ls hl1 hP hS => va_get (own := cN (mCi k)) hxx hbb hts (uws_in ha) hown hK hP.1 q (wls_o hl) (vw_at a ha) b hb (hts _ hg) (fun _ g => g) (by rw [enF_at, nth_some e]; rfl) hd (ho H locs ls hl1 hP hS)
  · obtain ⟨-, rfl, rfl, rfl, rfl, rfl⟩ := nx_s hx
    exact fun H locs ls hl1 hP hS => va_get (own := cN (mCi k)) hxx hbb hts (uws_in ha) hown hK hP.1 q (wls_o hl) (vw_at a ha) b hb (hts _ hg) (fun _ g => g) (by rw [enF_at, nth_some e]; rfl) hd (ho H locs ls hl1 hP hS)
theorem szl_set {lay : Lay} {i : Nat} {e e' : LE} (h : lay[i]? = some e) (hs : szE e' = szE e) : szl (lay.set i e') = szl lay := by
  have hm : (lay.set i e').map szE = lay.map szE := by
    apply List.ext_getElem?
    intro j
    by_cases hj : i = j
    · subst hj
      rw [List.getElem?_map, List.getElem?_map, List.getElem?_set_self (lt_of_at h), h]
      simp [hs]
    · rw [List.getElem?_map, List.getElem?_map, List.getElem?_set_ne hj]
  simp only [szl, hm]
theorem szl_app {lay : Lay} {e : LE} : szl (lay ++ [e]) = szl lay + szE e := by simp [szl]
theorem ib_in {i : Int32} {n : Nat} (h : ibB i n = true) : vp_in i n := by
  simp only [ibB, Bool.and_eq_true, Bool.not_eq_true', decide_eq_false_iff_not] at h
  intro q
  rcases q with q | q
  · exact h.1 q
  · have := ble_lt h.2; omega
theorem upd_set {h : Hp} {z b : Nat} {ca : Bool → ClassId} {lay : Lay} {q n j : Nat} {x : Int32} {t : Bool} (hl : lay[q]? = some (.inr (t, n))) : (wls z b ca lay h).set q (z + q, .inl (ca t, n, .inl (upd (h q) j x))) = wls z b ca lay (hset h q j x) := by
  have g := wls_set (z := z) (b := b) (ca := ca) (lay := lay) (h := h) (h' := hset h q j x) (i := q) (.inr (t, n)) (fun i hi => hset_ne hi) (lt_of_at hl)
  rw [lay_same hl] at g
  simp only [enc, hset_eq] at g
  exact g
section PXS
variable {p : Program} {l : Launch} {e : Env} {R : Room} {s : State} {m : MethodId} {args : Array Value} {below : List Frame} {meth : Method} {c : Code} {H : Heap} {locs : List Loc} {cells slots : Nat} {Q : State → Prop}
/-- a store into a field, with the size of the heap behind it -/
theorem px {D : va_G} {ca : Bool → ClassId} {ws : va_W} {z k p0 a b i pc : Nat} {fs : List Value} {ls : Array Slot} {rest : List Value} {v : Value} (hxx : p.tables.exec = Jvm.exec) (hbb : c.code = mC k) (hown : s.vm.findClass (mY k).cls = some m.cls) (hts : ∀ w ∈ gws, w.before args s = true) (hini : mIni k = true → meth.name = "<init>") (hK : va_K D vwCl (tys ca) s) (hP : va_P D vwCl ws H) (hD : va_D (fun q => z ≤ q) ws) (hS : va_S (fun q => z ≤ q) s.heap H locs) (ha : a < 9) (hb : b < vN a) (hlink : Cond.fieldLink (cN (mCi k)) i (vT a b).1 (vT a b).2.1 (vT a b).2.2.1 ∈ gws) (hf : (vT a b).2.2.2 = true → mIni k = true ∧ a = mCi k) (hl : ws[p0]? = some (z + p0, .inr (a, fs))) (hbl : b < fs.length) (hn : narrow (vTy a b) v = v) (hfit : fits (vTy a b) v = true) (hd : decode (mC k) pc = .ok (.putfield i, 3))
    (kk : ∀ (H1 : Heap) (locs1 : List Loc), H1.size = H.size → va_P D vwCl (ws.set p0 (z + p0, .inr (a, fs.set b v))) H1 → va_S (fun q => z ≤ q) s.heap H1 locs1 → W p l e R s m args below meth c H1 locs1 cells slots Q (F0 m (pc + 3) ls rest)) : W p l e R s m args below meth c H locs cells slots Q (F0 m pc ls (v :: .ref (z + p0) :: rest)) := by
  have hin := uws_in ha
  have hc := vw_at a ha
  have hap := va_apart (own := cN (mCi k)) hts hin (vTy a) (vT_ty a ha) (vT_nm a ha) hK hc
  obtain ⟨r, h1, cell, q1, q2, q3, q4⟩ := hP p0 _ hl
  have hr : r = (cN a, vT a, vN a) := Option.some.inj (h1.symm.trans hc)
  subst hr
  obtain ⟨hSl, hfc, kC, hkC, hkind⟩ := hK.1 a _ hc
  obtain ⟨cf, kf, fi, f, hi, hsl⟩ := hSl b hb
  have hlay := hts _ (hin _ (u_in_lay hb))
  have hst := (u_facts hfc hkC (u_lays hts hin hb) hi).1
  have hdesc := vT_ty a ha b hb
  have hl1 := hts _ hlink
  cases hfin : (vT a b).2.2.2 with
  | false =>
    unfold u_lay at hlay
    rw [if_neg (by rw [hfin]; decide)] at hlay
    have h6 := u_store hfc hkC hkind hlay hi hdesc hn hfit
    refine W.putK hxx hbb (f := f) ⟨hown, hl1, ⟨_, _, _, hi⟩, hst⟩ (by rw [q2]; exact h6) q1 q3 (by rw [hsl]; exact k2_hasslot (q4 b hb)) rfl rfl hd fun H' e1 e2 e3 => ?_
    rw [hsl] at e1 ⊢
    exact kk H' _ e2 (hP.set hD hl ⟨_, hc, t_OB.to (V := updV (vp_V fs) b v) ⟨_, e1, q2, q3, t_set q4 hap hb v⟩ (fun j _ => vp_updV_set hbl v j)⟩ e3) (hS.put e2 e3 (hD.2 p0 _ hl))
  | true =>
    obtain ⟨hi0, hak⟩ := hf hfin
    unfold u_lay at hlay
    rw [if_pos hfin] at hlay
    have hcf : m.cls = cf := by
      obtain ⟨_, _, c', _, _, _, -, -, hf', -, -, -, hown2, -⟩ := Cond.laysFinal_spec hlay
      have e1 : c' = cf := by have := hi.symm.trans hf'; simp at this; exact this.1.symm
      rw [vT_k ha hb, hak] at hown2
      rw [← e1]; exact Option.some.inj (hown.symm.trans hown2)
    have h6 := u_fits hfc hkC hkind (Or.inr hlay) hi hdesc hn hfit
    refine W.putFinK hxx hbb hown hl1 hi hst hcf (hini hi0) (by rw [q2]; exact h6) q1 q3 (by rw [hsl]; exact k2_hasslot (q4 b hb)) rfl rfl hd fun H' e1 e2 e3 => ?_
    rw [hsl] at e1 ⊢
    exact kk H' _ e2 (hP.set hD hl ⟨_, hc, t_OB.to (V := updV (vp_V fs) b v) ⟨_, e1, q2, q3, t_set q4 hap hb v⟩ (fun j _ => vp_updV_set hbl v j)⟩ e3) (hS.put e2 e3 (hD.2 p0 _ hl))
end PXS
theorem isZ_c {y : Int32} (h : isZ y = true) : y = 0 ∨ y = 1 := by
  simp only [isZ, Bool.or_eq_true, decide_eq_true_eq] at h
  exact h
theorem nar_z {y : Int32} (h : isZ y = true) : narrow .boolean (.int y) = .int y := by
  rcases isZ_c h with rfl | rfl <;> rfl
set_option maxHeartbeats 1000000 in
theorem x_putfield {X : CT} {L : Nat} {xs : Nat → Int32} {k pc np a b c : Nat} {v : Int32} {w : Int64} {tbl : List (Int32 × Nat)} {lv lv' : List (Nat × Value)} {st st' : List Value} {lay lay' : Lay} {h h' : Hp} {pc' : Nat} {i : Nat} (hC : CxT X k) (hd : decode (mC k) pc = .ok (.putfield i, np - pc)) (hn : np = pc + lenI (.putfield i)) (hj : okJ k pc a b c v w tbl (.putfield i) = true) (hx : ex L xs k pc lv st lay h np a b v w tbl (.putfield i) = some (.inl (true, pc', lv', st', lay', h'))) (hsc : ScT X L xs k) (hR : RoT X lay lay') (ho : Ok X k pc' lv' st' lay' h') : Ok X k pc lv st lay h := by
  obtain ⟨p, l, e, R, s, m, args, below, meth, cc, D, ca, z, b0, l0, s0, Q⟩ := X
  obtain ⟨hk, hxx, hbb, hml, hown, hts, hnw, hini, hfr, hlo, hK⟩ := id hC
  subst hn
  rw [Nat.add_sub_cancel_left] at hd
  simp only [okJ, Bool.and_eq_true] at hj
  obtain ⟨⟨⟨⟨ha, hb⟩, hw⟩, hf⟩, ht⟩ := hj
  have ha := ble_lt ha
  have hb := ble_lt hb
  have hg : Cond.fieldLink (cN (mCi k)) i (vT a b).1 (vT a b).2.1 (vT a b).2.2.1 ∈ gws := gw_in (wAt_in hw) rfl
  have hf : (vT a b).2.2.2 = true → mIni k = true ∧ a = mCi k := fun g => by
    rw [g] at hf
    simp only [Bool.not_true, Bool.false_or, Bool.and_eq_true] at hf
    exact ⟨hf.1, Nat.eq_of_beq_eq_true hf.2⟩
  rcases pP_s hx with ⟨y, q, r, rfl, hx⟩ | ⟨y, q, r, rfl, hx⟩
  · obtain ⟨fl, hl, hx⟩ := ob_s hx
    obtain ⟨e1, hx⟩ := isN_s hx
    obtain ⟨e2, hx⟩ := isN_s hx
    obtain ⟨hv, rfl, rfl, rfl, rfl, rfl⟩ := nx_s hx
    have e1 := nth_some e1
    have hbl : b < fl.length := lt_of_at e1
    rw [e2] at ht
    simp only [Bool.or_eq_true, Bool.and_eq_true, decide_eq_true_eq] at ht
    have hnf : narrow (vTy a b) (.int y) = .int y ∧ fits (vTy a b) (.int y) = true := by
      rcases ht with ⟨t1, t2⟩ | ⟨t1, t2⟩
      · rw [t1]; exact ⟨rfl, rfl⟩
      · subst t2
        have hv : isZ y = true := hv
        rw [t1]; exact ⟨nar_z hv, by rcases isZ_c hv with rfl | rfl <;> rfl⟩
    intro H locs ls hl1 hP hS
    have hlt : q < lay'.length := lt_of_at hl
    refine px (v := .int y) hxx hbb hown hts hini hK hP.1 wls_D hS ha hb hg hf (wls_o hl) (by rw [enF_len]; exact hbl) hnf.1 hnf.2 hd fun H1 locs1 hz hP1 hS1 => ?_
    rw [enF_int e1] at hP1
    have e9 : (wls z b0 ca lay' h).set q (z + q, .inr (a, enF z b0 (hset h q b y) q fl)) = wls z b0 ca lay' (hset h q b y) := by
      have g := wls_set (z := z) (b := b0) (ca := ca) (lay := lay') (h := h) (h' := hset h q b y) (i := q) (.inl (a, fl)) (fun j hj => hset_ne hj) hlt
      rw [lay_same hl] at g
      exact g
    rw [e9] at hP1
    exact ho H1 locs1 ls hl1 ⟨hP1, hz.trans hP.2⟩ hS1
  · obtain ⟨fl, hl, hx⟩ := ob_s hx
    obtain ⟨⟨u1, e1⟩, hx⟩ := isS_s hx
    obtain ⟨⟨u2, e2⟩, hx⟩ := isS_s hx
    obtain ⟨-, rfl, rfl, rfl, rfl, rfl⟩ := nx_s hx
    have e1 := nth_some e1
    have hbl : b < fl.length := lt_of_at e1
    rw [e2] at ht
    have hnf : narrow (vTy a b) (.ref (z + y)) = .ref (z + y) ∧ fits (vTy a b) (.ref (z + y)) = true := by
      revert ht
      cases vTy a b <;> intro ht <;> first | exact ⟨rfl, rfl⟩ | (simp [isRefTy] at ht; done)
    intro H locs ls hl1 hP hS
    have hlt : q < lay.length := lt_of_at hl
    refine px (v := .ref (z + y)) hxx hbb hown hts hini hK hP.1 wls_D hS ha hb hg hf (wls_o hl) (by rw [enF_len]; exact hbl) hnf.1 hnf.2 hd fun H1 locs1 hz hP1 hS1 => ?_
    rw [enF_ref hbl] at hP1
    have e9 : (wls z b0 ca lay h').set q (z + q, .inr (a, enF z b0 h' q (fl.set b (some (.ref y))))) = wls z b0 ca (lay.set q (.inl (a, fl.set b (some (.ref y))))) h' := wls_set (z := z) (b := b0) (ca := ca) (lay := lay) (h := h') (h' := h') (i := q) (.inl (a, fl.set b (some (.ref y)))) (fun j hj => rfl) hlt
    rw [e9] at hP1
    have hz2 : H1.size = z + (lay.set q (.inl (a, fl.set b (some (.ref y))))).length := by rw [List.length_set]; exact hz.trans hP.2
    have hw9 := ho H1 locs1 ls hl1 ⟨hP1, hz2⟩ hS1
    have hs1 : szl (lay.set q (.inl (a, fl.set b (some (.ref y))))) = szl lay := szl_set hl (by simp [szE])
    rw [List.length_set, hs1] at hw9
    exact hw9
set_option maxHeartbeats 1000000 in
theorem x_iaload {X : CT} {L : Nat} {xs : Nat → Int32} {k pc np a b c : Nat} {v : Int32} {w : Int64} {tbl : List (Int32 × Nat)} {lv lv' : List (Nat × Value)} {st st' : List Value} {lay lay' : Lay} {h h' : Hp} {pc' : Nat} (hC : CxT X k) (hd : decode (mC k) pc = .ok (.iaload, np - pc)) (hn : np = pc + lenI (.iaload)) (hj : okJ k pc a b c v w tbl (.iaload) = true) (hx : ex L xs k pc lv st lay h np a b v w tbl (.iaload) = some (.inl (true, pc', lv', st', lay', h'))) (hsc : ScT X L xs k) (hR : RoT X lay lay') (ho : Ok X k pc' lv' st' lay' h') : Ok X k pc lv st lay h := by
  obtain ⟨p, l, e, R, s, m, args, below, meth, cc, D, ca, z, b0, l0, s0, Q⟩ := X
  obtain ⟨hk, hxx, hbb, hml, hown, hts, hnw, hini, hfr, hlo, hK⟩ := id hC
  subst hn
  rw [Nat.add_sub_cancel_left] at hd
  rcases pA_s hx with ⟨i, q, r, rfl, hx⟩ | ⟨i, q, r, rfl, hx⟩
  · obtain ⟨n, hl, hx⟩ := arr_s hx
    obtain ⟨hib, rfl, rfl, rfl, rfl, rfl⟩ := nx_s hx
    exact fun H locs ls hl1 hP hS => va_iald hxx hbb hK hP.1 q 0 (wls_a hl) rfl (ib_in hib) hd (ho H locs ls hl1 hP hS)
  · obtain ⟨hib, rfl, rfl, rfl, rfl, rfl⟩ := nx_s hx
    simp only [Bool.and_eq_true] at hib
    obtain ⟨hX, hbl, hbz⟩ := hsc.2 hib.2
    exact fun H locs ls hl1 hP hS => va_sld hxx hbb hX hbl (Nat.not_le.mpr hbz) hS (ib_in hib.1) hd (ho H locs ls hl1 hP hS)
set_option maxHeartbeats 1000000 in
theorem x_baload {X : CT} {L : Nat} {xs : Nat → Int32} {k pc np a b c : Nat} {v : Int32} {w : Int64} {tbl : List (Int32 × Nat)} {lv lv' : List (Nat × Value)} {st st' : List Value} {lay lay' : Lay} {h h' : Hp} {pc' : Nat} (hC : CxT X k) (hd : decode (mC k) pc = .ok (.baload, np - pc)) (hn : np = pc + lenI (.baload)) (hj : okJ k pc a b c v w tbl (.baload) = true) (hx : ex L xs k pc lv st lay h np a b v w tbl (.baload) = some (.inl (true, pc', lv', st', lay', h'))) (hsc : ScT X L xs k) (hR : RoT X lay lay') (ho : Ok X k pc' lv' st' lay' h') : Ok X k pc lv st lay h := by
  obtain ⟨p, l, e, R, s, m, args, below, meth, cc, D, ca, z, b0, l0, s0, Q⟩ := X
  obtain ⟨hk, hxx, hbb, hml, hown, hts, hnw, hini, hfr, hlo, hK⟩ := id hC
  subst hn
  rw [Nat.add_sub_cancel_left] at hd
  rcases pA_s hx with ⟨i, q, r, rfl, hx⟩ | ⟨i, q, r, rfl, hx⟩
  · obtain ⟨n, hl, hx⟩ := arr_s hx
    obtain ⟨hib, rfl, rfl, rfl, rfl, rfl⟩ := nx_s hx
    exact fun H locs ls hl1 hP hS => va_zald hxx hbb hK hP.1 q 1 (wls_a hl) rfl (ib_in hib) hd (ho H locs ls hl1 hP hS)
  · cases hx
set_option maxHeartbeats 1000000 in
theorem x_iastore {X : CT} {L : Nat} {xs : Nat → Int32} {k pc np a b c : Nat} {v : Int32} {w : Int64} {tbl : List (Int32 × Nat)} {lv lv' : List (Nat × Value)} {st st' : List Value} {lay lay' : Lay} {h h' : Hp} {pc' : Nat} (hC : CxT X k) (hd : decode (mC k) pc = .ok (.iastore, np - pc)) (hn : np = pc + lenI (.iastore)) (hj : okJ k pc a b c v w tbl (.iastore) = true) (hx : ex L xs k pc lv st lay h np a b v w tbl (.iastore) = some (.inl (true, pc', lv', st', lay', h'))) (hsc : ScT X L xs k) (hR : RoT X lay lay') (ho : Ok X k pc' lv' st' lay' h') : Ok X k pc lv st lay h := by
  obtain ⟨p, l, e, R, s, m, args, below, meth, cc, D, ca, z, b0, l0, s0, Q⟩ := X
  obtain ⟨hk, hxx, hbb, hml, hown, hts, hnw, hini, hfr, hlo, hK⟩ := id hC
  subst hn
  rw [Nat.add_sub_cancel_left] at hd
  obtain ⟨x, i, q, r, rfl, hx⟩ := pS_s hx
  obtain ⟨n, hl, hx⟩ := arr_s hx
  obtain ⟨hib, rfl, rfl, rfl, rfl, rfl⟩ := nx_s hx
  intro H locs ls hl1 hP hS
  have hA : z + q = z + q := rfl
  refine W.iast hxx hbb (hP.1 q _ (wls_a hl)) ((hK.2 0 _ rfl).1 n (fun j => .int (h q j))) (fun g => by cases g) (by show ¬ (i < 0 ∨ (arrV _ _ _).slots.size ≤ _); rw [arrV_size]; exact ib_in hib) rfl rfl hd fun H1 g hz oq => ?_
  have hP1 : va_P D vwCl ((wls z b0 ca lay' h).set q (z + q, .inl (ca false, n, .inl (upd (h q) i.toNatClampNeg x)))) H1 := by
    refine hP.1.set wls_D (wls_a hl) ?_ oq
    show H1[z + q]? = some (vp_cell _ _)
    rw [g, vp_cell_i, vp_cell_i, arrV_store]
    congr 2
    funext j
    by_cases hj : j = i.toNatClampNeg
    · subst hj; simp [upd, updV]
    · simp [upd, updV, hj]
  rw [upd_set hl] at hP1
  exact ho H1 _ ls hl1 ⟨hP1, hz.trans hP.2⟩ (hS.put hz oq (Nat.le_add_right z q))
set_option maxHeartbeats 1000000 in
theorem x_bastore {X : CT} {L : Nat} {xs : Nat → Int32} {k pc np a b c : Nat} {v : Int32} {w : Int64} {tbl : List (Int32 × Nat)} {lv lv' : List (Nat × Value)} {st st' : List Value} {lay lay' : Lay} {h h' : Hp} {pc' : Nat} (hC : CxT X k) (hd : decode (mC k) pc = .ok (.bastore, np - pc)) (hn : np = pc + lenI (.bastore)) (hj : okJ k pc a b c v w tbl (.bastore) = true) (hx : ex L xs k pc lv st lay h np a b v w tbl (.bastore) = some (.inl (true, pc', lv', st', lay', h'))) (hsc : ScT X L xs k) (hR : RoT X lay lay') (ho : Ok X k pc' lv' st' lay' h') : Ok X k pc lv st lay h := by
  obtain ⟨p, l, e, R, s, m, args, below, meth, cc, D, ca, z, b0, l0, s0, Q⟩ := X
  obtain ⟨hk, hxx, hbb, hml, hown, hts, hnw, hini, hfr, hlo, hK⟩ := id hC
  subst hn
  rw [Nat.add_sub_cancel_left] at hd
  obtain ⟨x, i, q, r, rfl, hx⟩ := pS_s hx
  obtain ⟨n, hl, hx⟩ := arr_s hx
  obtain ⟨hib, rfl, rfl, rfl, rfl, rfl⟩ := nx_s hx
  intro H locs ls hl1 hP hS
  refine W.zast hxx hbb (hP.1 q _ (wls_a hl)) ((hK.2 1 _ rfl).1 n (fun j => .int (h q j))) (fun g => by cases g) (by show ¬ (i < 0 ∨ (arrV _ _ _).slots.size ≤ _); rw [arrV_size]; exact ib_in hib) rfl rfl hd fun H1 g hz oq => ?_
  have hP1 : va_P D vwCl ((wls z b0 ca lay' h).set q (z + q, .inl (ca true, n, .inl (upd (h q) i.toNatClampNeg (vp_nar .boolean x))))) H1 := by
    refine hP.1.set wls_D (wls_a hl) ?_ oq
    show H1[z + q]? = some (vp_cell _ _)
    rw [g, vp_cell_i, vp_cell_i, arrV_store]
    congr 2
    funext j
    by_cases hj : j = i.toNatClampNeg
    · subst hj
      simp [upd, updV, vp_nar]
      try rfl
    · simp [upd, updV, hj]
  rw [upd_set hl] at hP1
  exact ho H1 _ ls hl1 ⟨hP1, hz.trans hP.2⟩ (hS.put hz oq (Nat.le_add_right z q))
set_option maxHeartbeats 1000000 in
theorem x_arraylength {X : CT} {L : Nat} {xs : Nat → Int32} {k pc np a b c : Nat} {v : Int32} {w : Int64} {tbl : List (Int32 × Nat)} {lv lv' : List (Nat × Value)} {st st' : List Value} {lay lay' : Lay} {h h' : Hp} {pc' : Nat} (hC : CxT X k) (hd : decode (mC k) pc = .ok (.arraylength, np - pc)) (hn : np = pc + lenI (.arraylength)) (hj : okJ k pc a b c v w tbl (.arraylength) = true) (hx : ex L xs k pc lv st lay h np a b v w tbl (.arraylength) = some (.inl (true, pc', lv', st', lay', h'))) (hsc : ScT X L xs k) (hR : RoT X lay lay') (ho : Ok X k pc' lv' st' lay' h') : Ok X k pc lv st lay h := by
  obtain ⟨p, l, e, R, s, m, args, below, meth, cc, D, ca, z, b0, l0, s0, Q⟩ := X
  obtain ⟨hk, hxx, hbb, hml, hown, hts, hnw, hini, hfr, hlo, hK⟩ := id hC
  subst hn
  rw [Nat.add_sub_cancel_left] at hd
  obtain ⟨q, r, rfl, hx⟩ := pT_s hx
  obtain ⟨hib, rfl, rfl, rfl, rfl, rfl⟩ := nx_s hx
  obtain ⟨hX, hbl, hbz⟩ := hsc.2 hib
  exact fun H locs ls hl1 hP hS => va_slen hxx hbb hX hbl (Nat.not_le.mpr hbz) hS hd (ho H locs ls hl1 hP hS)
