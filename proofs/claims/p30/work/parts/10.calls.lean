/-! Big steps of the small machine, and calls. -/
def big (L : Nat) (xs : Nat → Int32) : Nat → Nat → Nat → List (Nat × Value) → List Value → Lay → Hp → Option (List Value × Lay × Hp)
  | 0, _, _, _, _, _, _ => none
  | n + 1, k, pc, lv, st, lay, h => match exAt L xs k pc lv st lay h with
    | some (.inl (true, pc', lv', st', lay', h')) => big L xs n k pc' lv' st' lay' h'
    | some (.inr (.inl (true, (a, pa, la, sa), (_, np, lv', rest)))) => match big L xs n a pa la sa lay h with
      | some (vs, lay1, h1) => big L xs n k np lv' (vs ++ rest) lay1 h1
      | none => none
    | some (.inr (.inr (true, vs))) => some (vs, lay, h)
    | _ => none
theorem nws_form {w : Jvm.Cond} (h : w ∈ nws) : ∃ a i x q, w = .methodLinkNest a i x q := by
  have h2 := (List.mem_filter.mp h).2
  cases w <;> first | exact ⟨_, _, _, _, rfl⟩ | (simp at h2; done)
theorem nw_in {w : Jvm.Cond} (h : w ∈ lw_tbl) (g : ∃ a i x q, w = .methodLinkNest a i x q) : w ∈ nws := by
  obtain ⟨a, i, x, q, rfl⟩ := g
  exact List.mem_filter.mpr ⟨h, rfl⟩
theorem scat_map (z b : Nat) : ∀ (l : List Value), ((l.map (cv z b)).map fun v => v.category).sum = scat l
  | [] => rfl
  | v :: r => by
    simp only [List.map_cons, List.sum_cons, scat, cv_cat]
    rw [← scat_map z b r]
theorem lg_len (z b : Nat) : ∀ (l : List Value), (lg_sl (l.map (cv z b))).length = (lg_sl l).length
  | [] => rfl
  | v :: r => by
    have ih := lg_len z b r
    simp only [lg_sl, List.map_cons, List.flatMap_cons, List.length_append, cv_cat] at ih ⊢
    rw [ih]
    split <;> rfl
theorem args_map (z b : Nat) : ∀ (l : List Value) (i : Nat), lv_args i (l.map (cv z b)) = cvl z b (lv_args i l)
  | [], _ => rfl
  | v :: r, i => by
    simp only [List.map_cons, lv_args, cv_cat, cvl]
    rw [args_map z b r]
    rfl
theorem spl_s : ∀ (n : Nat) (acc st args r : List Value), spl n acc st = some (args, r) → args.reverse ++ r = acc.reverse ++ st ∧ args.length = n + acc.length
  | 0, acc, st, args, r, h => by
    simp only [spl, Option.some.injEq, Prod.mk.injEq] at h
    rw [← h.1, ← h.2]
    exact ⟨rfl, by omega⟩
  | n + 1, acc, [], args, r, h => by simp [spl] at h
  | n + 1, acc, v :: st, args, r, h => by
    have ih := spl_s n (v :: acc) st args r (by simpa [spl] using h)
    refine ⟨by rw [ih.1]; simp, by rw [ih.2]; simp; omega⟩
def Pe (a : Nat) (L : Nat) (xs : Nat → Int32) (args : List Value) (z b : Nat) (D : va_G) (ca : Bool → ClassId) (lay : Lay) (h : Hp) : Array Value → State → Prop := fun v U => v = (args.map (cv z b)).toArray ∧ HP z b D ca lay h U.heap ∧ va_K D vwCl (tys ca) U ∧ (∀ w ∈ nws, va_Nw w U) ∧ (sc a = true → va_X b L xs U U.heap ∧ b < U.heap.size ∧ b < z)
def Qe (vs : List Value) (z b : Nat) (D : va_G) (ca : Bool → ClassId) (lay : Lay) (h : Hp) : Array Value → State → Outcome → State → Prop := fun _ st oc t => (∃ v : Option Value, oc = .returned v ∧ v.toList = vs.map (cv z b)) ∧ HP z b D ca lay h t.heap ∧ va_F (fun q => z ≤ q) st t
theorem pe_blind {a : Nat} {L : Nat} {xs : Nat → Int32} {args : List Value} {z b : Nat} {D : va_G} {ca : Bool → ClassId} {lay : Lay} {h : Hp} : FrameBlind (Pe a L xs args z b D ca lay h) := by
  intro a1 U g mk q
  obtain ⟨q0, q1, q2, q3, q4⟩ := q
  refine ⟨q0, q1, va_K.moved (u := U) (U := U.calling g mk a1) (Vm.Alike.refl U.vm) q2, fun w hw => ?_, fun q5 => ⟨va_X.moved (u := U) (U := U.calling g mk a1) (Vm.Alike.refl U.vm) (q4 q5).1, (q4 q5).2⟩⟩
  obtain ⟨a', i, x, q, rfl⟩ := nws_form hw
  exact va_Nw.same rfl rfl (q3 _ hw)
theorem sc_at {a k b z L : Nat} {xs : Nat → Int32} {s : State} {H : Heap} {locs : List Loc} (hsc : z ≤ s.heap.size ∧ (sc k = true → va_X b L xs s s.heap ∧ b < s.heap.size ∧ b < z)) (hS : va_S (fun q => z ≤ q) s.heap H locs) (hak : sc a = true → sc k = true) : ∀ U : State, U.heap = H → s.WarmedH U.vm → sc a = true → va_X b L xs U U.heap ∧ b < U.heap.size ∧ b < z := by
  intro U hU hW q
  obtain ⟨h1, h2, h3⟩ := hsc.2 (hak q)
  rw [hU]
  exact ⟨va_X.moved hW.alike (va_X.kept h1 (hS.2.1 b h2 (Nat.not_le.mpr h3))), Nat.lt_of_lt_of_le h2 hS.1, h3⟩
theorem pe_at {a : Nat} {L : Nat} {xs : Nat → Int32} {args : List Value} {z b : Nat} {D : va_G} {ca : Bool → ClassId} {lay : Lay} {h : Hp} {s : State} {H : Heap} (hP : HP z b D ca lay h H) (hK : va_K D vwCl (tys ca) s) (hnw : ∀ w ∈ nws, va_Nw w s) (hx : ∀ U : State, U.heap = H → s.WarmedH U.vm → sc a = true → va_X b L xs U U.heap ∧ b < U.heap.size ∧ b < z) : ∀ U : State, U.heap = H → s.WarmedH U.vm → Pe a L xs args z b D ca lay h (args.map (cv z b)).toArray U := by
  intro U hU hW
  refine ⟨rfl, by rw [hU]; exact hP, va_K.moved hW.alike hK, fun w hw => ?_, hx U hU hW⟩
  obtain ⟨a', i, x, q, rfl⟩ := nws_form hw
  exact va_Nw.warmM hW (hnw _ hw)
def EndT (X : CT) (k : Nat) (vs : List Value) (lay : Lay) (h : Hp) : Prop := match X with
  | (p, l, e, R, s, m, args, below, meth, c, D, ca, z, b, l0, s0, Q) => ∀ (pc : Nat) (H : Heap) (locs : List Loc) (ls : Array Slot), ((vs = [] ∧ mRt k = 0 ∧ decode (mC k) pc = .ok (.return_, 1)) ∨ (∃ x, vs = [.int x] ∧ (mRt k = 1 ∨ (mRt k = 2 ∧ isZ x = true)) ∧ decode (mC k) pc = .ok (.ireturn, 1)) ∨ (∃ q, vs = [.ref q] ∧ mRt k = 3 ∧ decode (mC k) pc = .ok (.areturn, 1))) → HP z b D ca lay h H → va_S (fun q => z ≤ q) s.heap H locs → W p l e R s m args below meth c H locs (lay.length - l0) (szl lay - s0) Q (F0 m pc ls (vs.map (cv z b)))
theorem ret_ok {k : Nat} (h : k < 137) (hl : k ≠ kLaw) : (mRt k = 0 → mRet k = none) ∧ (mRt k = 1 → mRet k = some .int) ∧ (mRt k = 2 → mRet k = some .boolean) ∧ (mRt k = 3 → ∃ n, mRet k = some (.object n)) := by
  have h1 := okM_k h
  unfold okM at h1
  have hb : Nat.beq k kLaw = false := by
    cases hb : Nat.beq k kLaw with
    | true => exact absurd (Nat.eq_of_beq_eq_true hb) hl
    | false => rfl
  rw [hb] at h1
  simp only [Bool.false_or, Bool.and_eq_true] at h1
  have h2 := h1.2
  generalize mRt k = r at h2 ⊢
  generalize mRet k = t at h2 ⊢
  refine ⟨fun e => ?_, fun e => ?_, fun e => ?_, fun e => ?_⟩ <;> subst e <;> revert h2 <;> (cases t with
    | none => simp
    | some t => cases t <;> simp)
theorem end_met {p : Program} {l : Launch} {e : Env} {R : Room} {s : State} {m : MethodId} {args : Array Value} {below : List Frame} {meth : Method} {c : Code} {D : va_G} {ca : Bool → ClassId} {z b k : Nat} {vs : List Value} {lay layE : Lay} {hE : Hp} (hk : k < 137) (hkl : k ≠ kLaw) (hxx : p.tables.exec = Jvm.exec) (hbb : c.code = mC k) (hr : meth.sig.returnType = mRet k) (hlocks : meth.locks = false) : EndT (p, l, e, R, s, m, args, below, meth, c, D, ca, z, b, lay.length, szl lay, MQ below (Qe vs z b D ca layE hE) args s (layE.length - lay.length) (szl layE - szl lay) (fun q => z ≤ q)) k vs layE hE := by
  obtain ⟨t0, t1, t2, t3⟩ := ret_ok hk hkl
  intro pc H locs ls hv hP hS
  have hq : ∀ (v : Option Value) (t : State), v.toList = vs.map (cv z b) → t.heap = H → Qe vs z b D ca layE hE args s (.returned v) t := fun v t hv ht => ⟨⟨v, rfl, hv⟩, by rw [ht]; exact hP, hS.F ht⟩
  rcases hv with ⟨rfl, h1, hd⟩ | ⟨x, rfl, h1, hd⟩ | ⟨q, rfl, h1, hd⟩
  · exact W.vret hxx hbb (hr.trans (t0 h1)) (fun t ht _ => hq none t rfl ht) hS.2.2 hd
  · rcases h1 with h1 | ⟨h1, h2⟩
    · exact W.iret hxx hbb (hr.trans (t1 h1)) (fun t ht _ => hq (some (.int x)) t rfl ht) hS.2.2 hd
    · exact W.zret hxx hbb (hr.trans (t2 h1)) (nar_z h2) (fun t ht _ => hq (some (.int x)) t rfl ht) hS.2.2 hd
  · obtain ⟨n, t4⟩ := t3 h1
    exact W.aret hxx hbb (hr.trans t4) (Or.inl ⟨n, rfl⟩) (Or.inr ⟨_, rfl⟩) (fun t ht _ => hq (some (.ref (z + q))) t rfl ht) hS.2.2 hd
def ws0 (a : Nat) : List Jvm.Cond := Cond.code (mY a) (mC a) (mMax a) (mRet a) :: gws
theorem code_in {a : Nat} (h : a < 137) (hl : a ≠ kLaw) : Cond.code (mY a) (mC a) (mMax a) (mRet a) ∈ gws ∧ Cond.initialized (cN (mCi a)) ∈ gws ∧ (mSta a = true → Cond.static (mY a) ∈ gws) ∧ (mSta a = false → Cond.instanceMethod (mY a) ∈ gws ∧ mCi a < 9) ∧ (mSta a = false → mIni a = false → Cond.selects (mY a).cls (mY a) (mY a) ∈ gws) ∧ mNar a = dnT (mDi a) ∧ (mSta a = false → mIni a = true → mRt a = 0) := by
  have h1 := okM_k h
  unfold okM at h1
  have hb : Nat.beq a kLaw = false := by
    cases hb : Nat.beq a kLaw with
    | true => exact absurd (Nat.eq_of_beq_eq_true hb) hl
    | false => rfl
  rw [hb] at h1
  simp only [Bool.false_or, Bool.and_eq_true] at h1
  obtain ⟨⟨⟨⟨⟨g1, g2⟩, g3⟩, g4⟩, g5⟩, -⟩ := h1
  refine ⟨gw_in (wAt_in g1) rfl, gw_in (wAt_in g2) rfl, fun q => ?_, fun q => ?_, fun q q2 => ?_, Nat.eq_of_beq_eq_true g5, fun q q2 => ?_⟩
  · rw [q] at g3
    exact gw_in (wAt_in g3) rfl
  · rw [q] at g3
    simp only [cond_false, Bool.and_eq_true] at g3
    exact ⟨gw_in (wAt_in g3.1) rfl, ble_lt g3.2⟩
  · rw [q, q2] at g4
    simp only [Bool.false_or, cond_false] at g4
    exact gw_in (wAt_in g4) rfl
  · rw [q, q2] at g4
    simp only [Bool.false_or, cond_true] at g4
    exact Nat.eq_of_beq_eq_true g4
theorem gws_good {w : Jvm.Cond} (h : w ∈ gws) : (w.onTables && w.keeps) = true ∨ ∃ ty, w = .arrayClass ty := good_of_word (List.mem_filter.mp h).2
theorem ws0_good {a : Nat} (h : a < 137) (hl : a ≠ kLaw) : GoodIn gws (ws0 a) := by
  intro w hw
  rcases List.mem_cons.mp hw with rfl | hw
  · exact ⟨(code_in h hl).1, Or.inl rfl⟩
  · exact ⟨hw, gws_good hw⟩
set_option maxHeartbeats 1000000 in
theorem met_of {L : Nat} {xs : Nat → Int32} {a : Nat} {args vs : List Value} {lay lay1 : Lay} {h h1 : Hp} (IH : ∀ X, CxT X a → ScT X L xs a → RoT X lay lay1 → EndT X a vs lay1 h1 → Ok X a 0 (lv_args 0 args) [] lay h) (ha : a < 137) (hal : a ≠ kLaw) (hg : lay.length ≤ lay1.length ∧ szl lay ≤ szl lay1) (hlen : (lg_sl args).length ≤ mMax a) (l : Launch) (z b : Nat) (D : va_G) (ca : Bool → ClassId) :
    Met l (mY a) (ws0 a) { frames := mFr a, cells := lay1.length - lay.length, slots := szl lay1 - szl lay, locals := mLo a } (Pe a L xs args z b D ca lay h) (Qe vs z b D ca lay1 h1) (lay1.length - lay.length) (szl lay1 - szl lay) (fun q => z ≤ q) := by
  have hcn := cN_k (mCi_k ha).1
  refine Met.ofW (cc := mC a) (maxL := mMax a) (ret := mRet a) hcn.1 rfl ?_
  intro p e s m args' below meth c s₁ B hml hv
  obtain ⟨rfl, hP, hK, hN, hX0⟩ := hv
  have hts := atoms_spec (ws := ws0 a) B.pre
  have hX := IH (p, l, e, { frames := mFr a, cells := lay1.length - lay.length, slots := szl lay1 - szl lay, locals := mLo a }, s, m, (args.map (cv z b)).toArray, below, meth, c, D, ca, z, b, lay.length, szl lay, MQ below (Qe vs z b D ca lay1 h1) (args.map (cv z b)).toArray s (lay1.length - lay.length) (szl lay1 - szl lay) (fun q => z ≤ q))
    ⟨ha, B.exec, B.bytes, hml, findClass_of_methodNamed B.named, fun w hw => hts w (List.mem_cons_of_mem _ hw), hN, fun hi => by
      rw [(name_of_methodNamed B.named B.method).1]
      show nmT (mNi a) = "<init>"
      rw [Nat.eq_of_beq_eq_true hi]
      rfl, Nat.le_refl _, Nat.le_refl _, hK⟩
    ⟨by rw [hP.2]; omega, hX0⟩
    ⟨Nat.le_refl _, Nat.le_refl _, by show lay1.length ≤ (lay1.length - lay.length) + lay.length; omega, by show szl lay1 ≤ (szl lay1 - szl lay) + szl lay; omega⟩
    (end_met ha hal B.exec B.bytes B.returns B.notSynchronized)
  have hl := lv_entry (args.map (cv z b)) (n := mMax a) (by rw [lg_len]; exact hlen)
  rw [lg_entry_eq]
  generalize (lg_sl (args.map (cv z b)) ++ List.replicate (mMax a - (lg_sl (args.map (cv z b))).length) Slot.unset).toArray = ls at hl ⊢
  rw [args_map] at hl
  have hW := hX s.heap [] ls hl hP va_S.rf
  rw [Nat.sub_self, Nat.sub_self] at hW
  exact hW
section VCE
variable {p : Program} {l : Launch} {e : Env} {R : Room} {s : State} {m : MethodId} {args : Array Value} {below : List Frame} {meth : Method} {c : Code} {H : Heap} {locs : List Loc} {cells slots : Nat} {Q : State → Prop}
theorem callE {pc z b mc ms : Nat} {D : va_G} {ca : Bool → ClassId} {lay1 : Lay} {h1 : Hp} {vs : List Value} {ls : Array Slot} {rest st0 : List Value} {a : Array Value} (hr : va_Run p l e R s m args below meth c H locs cells slots mc ms (F0 m pc ls st0) rest (Qe vs z b D ca lay1 h1 a) (fun q => z ≤ q)) (hS : va_S (fun q => z ≤ q) s.heap H locs)
    (kk : ∀ (H1 : Heap) (locs1 : List Loc), HP z b D ca lay1 h1 H1 → va_S (fun q => z ≤ q) s.heap H1 locs1 → W p l e R s m args below meth c H1 locs1 (cells + mc) (slots + ms) Q (F0 m (pc + 3) ls (vs.map (cv z b) ++ rest))) : W p l e R s m args below meth c H locs cells slots Q (F0 m pc ls st0) := by
  intro T hT X
  obtain ⟨v, st₀, t, T', L, h0, X', hL, e1, e2, ⟨⟨v', hv, hvs⟩, hP, hz, hk⟩, st⟩ := hr T hT X
  cases hv
  rw [h0] at hz hk
  have hS1 : va_S (fun q => z ≤ q) s.heap T'.heap (locs ++ L) := by
    rw [e1]
    refine ⟨Nat.le_trans hS.1 hz, fun q g1 g2 => ?_, fun q hq => ?_⟩
    · rw [hk q (Nat.lt_of_lt_of_le g1 hS.1) g2]; exact hS.2.1 q g1 g2
    · rcases List.mem_append.mp hq with g | g
      · exact hS.2.2 q g
      · exact hL q g
  obtain ⟨t2, a1, b1⟩ := kk T'.heap (locs ++ L) (by rw [e1]; exact hP) hS1 T' rfl X'
  refine ⟨t2, st t2 ?_, b1⟩
  rw [hvs]
  exact a1
end VCE
theorem cal_s {k np a : Nat} {lv : List (Nat × Value)} {args rest : List Value} {f1 f2 : Fr} (h : cal k np a lv args rest = some (.inr (.inl (true, f1, f2)))) : (lg_sl args).length ≤ mMax a ∧ mFr a + 1 ≤ mFr k ∧ 8 + (mMax a + 11) + mLo a ≤ mLo k ∧ scat rest ≤ 8 ∧ a ≠ kLaw ∧ f1 = (a, 0, lv_args 0 args, []) ∧ f2 = (k, np, lv, rest) ∧ (sc a = true → sc k = true) := by
  unfold cal at h
  rw [frc_eq] at h
  simp only [Option.some.injEq, Sum.inr.injEq, Sum.inl.injEq, Prod.mk.injEq, Bool.and_eq_true, Bool.not_eq_true'] at h
  obtain ⟨⟨⟨⟨⟨⟨g1, g2⟩, g3⟩, g4⟩, g5⟩, g6⟩, h1, h2⟩ := h
  refine ⟨Nat.le_of_ble_eq_true g1, Nat.le_of_ble_eq_true g2, Nat.le_of_ble_eq_true g3, Nat.le_of_ble_eq_true g4, fun e => ?_, h1.symm, h2.symm, fun q => by rw [q] at g6; simpa using g6⟩
  subst e
  rw [Nat.beq_refl] at g5
  cases g5
