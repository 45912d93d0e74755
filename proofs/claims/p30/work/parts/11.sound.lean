/-! Calls of the machine out of runs; then the whole. -/
set_option maxHeartbeats 1000000 in
theorem x_static {L : Nat} {xs : Nat → Int32} {X : CT} {k pc np a b c : Nat} {v : Int32} {w : Int64} {tbl : List (Int32 × Nat)} {lv lv' : List (Nat × Value)} {st rest : List Value} {lay lay1 : Lay} {h h1 : Hp} {i pa np' k' : Nat} {la : List (Nat × Value)} {sa vs : List Value} (hC : CxT X k) (hsc : ScT X L xs k) (hkl : k < 137) (hd : decode (mC k) pc = .ok (.invokestatic i, np - pc)) (hn : np = pc + lenI (.invokestatic i)) (hj : okJ k pc a b c v w tbl (.invokestatic i) = true) {a' : Nat} (hx : ex L xs k pc lv st lay h np a b v w tbl (.invokestatic i) = some (.inr (.inl (true, (a', pa, la, sa), (k', np', lv', rest))))) (hg : lay.length ≤ lay1.length ∧ szl lay ≤ szl lay1) (hR : RoT X lay lay1) (IH : ∀ X, CxT X a' → ScT X L xs a' → RoT X lay lay1 → EndT X a' vs lay1 h1 → Ok X a' pa la sa lay h) (ho : Ok X k np' lv' (vs ++ rest) lay1 h1) : Ok X k pc lv st lay h := by
  obtain ⟨p, l, e, R, s, m, args, below, meth, cc, D, ca, z, b0, l0, s0, Q⟩ := X
  obtain ⟨hk, hxx, hbb, hml, hown, hts, hnw, hini, hfr, hlo, hK⟩ := id hC
  subst hn
  rw [Nat.add_sub_cancel_left] at hd
  simp only [okJ] at hj
  simp only [ex] at hx
  cases hb9 : Nat.beq b 9 with
  | true =>
    rw [hb9] at hx
    simp only [cond_true] at hx
    obtain ⟨x, y, r, rfl, hy⟩ := pII_s hx
    simp [nx] at hy
  | false =>
  rw [hb9] at hx hj
  simp only [cond_false] at hx hj
  cases hb8 : Nat.beq b 8 with
  | true =>
    rw [hb8] at hx
    simp only [cond_true] at hx
    obtain ⟨x, y, r, rfl, hy⟩ := pII_s hx
    simp [nx] at hy
  | false =>
    rw [hb8] at hx hj
    simp only [cond_false] at hx hj
    simp only [Bool.and_eq_true] at hj
    obtain ⟨⟨⟨ha, hst⟩, hb⟩, hlk⟩ := hj
    have ha := ble_lt ha
    unfold spS at hx
    cases hsp : spl (mNar a) [] st with
    | none => rw [hsp] at hx; cases hx
    | some q =>
      obtain ⟨as, r⟩ := q
      rw [hsp] at hx
      obtain ⟨c1, c2, c3, c4, c5, c6, c7, c8⟩ := cal_s hx
      simp only [Prod.mk.injEq] at c6 c7
      obtain ⟨rfl, rfl, rfl, rfl⟩ := c6
      obtain ⟨rfl, rfl, rfl, rfl⟩ := c7
      obtain ⟨sp1, sp2⟩ := spl_s _ _ _ _ _ hsp
      simp only [List.reverse_nil, List.nil_append, List.length_nil, Nat.add_zero] at sp1 sp2
      obtain ⟨w1, w2, w3, w4, w5, w6, w7⟩ := code_in ha c5
      obtain ⟨r1, r2, r3, r4⟩ := hR
      intro H locs ls hl hP hS
      have hM := met_of IH ha c5 hg c1 l z b0 D ca
      have hcn := cN_k (mCi_k ha).1
      have hpre : PreS s H (Pe a' L xs as z b0 D ca lay h) (as.map (cv z b0)) := ⟨pe_blind, pe_at hP hK hnw (sc_at hsc hS c8)⟩
      have hdd : (mY a').cls ≠ "java/lang/invoke/MethodHandle" ∧ (mY a').cls ≠ "java/lang/invoke/VarHandle" ∧ (parseMethodDescriptor (mY a').desc).map (fun d => d.parameters.length) = some (mNar a') := ⟨hcn.2.1, hcn.2.2, by rw [w6]; exact dsT_k (mCi_k ha).2⟩
      have hroom : mFr a' + 1 ≤ R.frames ∧ 8 + (mMax a' + 11) + mLo a' ≤ R.locals := ⟨Nat.le_trans c2 hfr, Nat.le_trans c3 hlo⟩
      have hstack : (st.map (cv z b0)) = (as.map (cv z b0)).reverse ++ rest.map (cv z b0) := by rw [← sp1, List.map_append, List.map_reverse]
      have hf : (lay.length - l0) + (lay1.length - lay.length) ≤ R.cells ∧ (szl lay - s0) + (szl lay1 - szl lay) ≤ R.slots := ⟨by omega, by omega⟩
      have hrun : va_Run p l e R s m args below meth cc H locs (lay.length - l0) (szl lay - s0) (lay1.length - lay.length) (szl lay1 - szl lay) (F0 m pc ls (st.map (cv z b0))) (rest.map (cv z b0)) (Qe vs z b0 D ca lay1 h1 (as.map (cv z b0)).toArray) (fun q => z ≤ q) := by
        unfold linkM at hlk
        cases hb1 : Nat.beq b 1 with
        | true =>
          rw [hb1] at hlk
          simp only [cond_true] at hlk
          have hlw : Cond.methodLinkNest (cN (mCi k')) i (mY a') "YesNoClones" ∈ nws := nw_in (wAt_in hlk) ⟨_, _, _, _, rfl⟩
          exact va_runSN (own := cN (mCi k')) (host := "YesNoClones") ⟨hxx, hbb, hml, hown, hts⟩ hM ⟨va_cnB (Ts := gws) (mNar a') hts (ws0_good ha c5) rfl rfl rfl (hnw _ hlw) (hts _ w2) hdd hroom, hts _ (w3 hst), trivial⟩ hpre rfl (by rw [List.length_map]; exact sp2) hl.1 hstack (lv_room (pc := pc) (ls := ls) (by rw [scat_map]; exact c4)) hd hf
        | false =>
          rw [hb1] at hlk
          simp only [cond_false] at hlk
          have hlw : Cond.methodLink (cN (mCi k')) i (mY a') ∈ gws := gw_in (wAt_in hlk) rfl
          refine va_runS (own := cN (mCi k')) ⟨hxx, hbb, hml, hown, hts⟩ hM (va_cwS (Ts := gws) (mNar a') hts (fun w hw => ?_) rfl rfl rfl hdd hroom) hpre rfl (by rw [List.length_map]; exact sp2) hl.1 hstack (lv_room (pc := pc) (ls := ls) (by rw [scat_map]; exact c4)) hd hf
          unfold va_wsS at hw
          rcases List.mem_append.mp hw with hw | hw
          · simp only [List.mem_cons, List.not_mem_nil, or_false] at hw
            rcases hw with rfl | rfl | rfl
            · exact ⟨hlw, gws_good hlw⟩
            · exact ⟨w3 hst, gws_good (w3 hst)⟩
            · exact ⟨w2, gws_good w2⟩
          · exact ws0_good ha c5 w hw
      refine callE hrun hS fun H1 locs1 hP1 hS1 => ?_
      have hw9 := ho H1 locs1 ls hl hP1 hS1
      rw [List.map_append] at hw9
      rw [show lay.length - l0 + (lay1.length - lay.length) = lay1.length - l0 by omega, show szl lay - s0 + (szl lay1 - szl lay) = szl lay1 - s0 by omega]
      exact hw9
set_option maxHeartbeats 1000000 in
theorem x_virtual {L : Nat} {xs : Nat → Int32} {X : CT} {k pc np a b c : Nat} {v : Int32} {w : Int64} {tbl : List (Int32 × Nat)} {lv lv' : List (Nat × Value)} {st rest : List Value} {lay lay1 : Lay} {h h1 : Hp} {i pa np' k' : Nat} {la : List (Nat × Value)} {sa vs : List Value} (hC : CxT X k) (hsc : ScT X L xs k) (hkl : k < 137) (hd : decode (mC k) pc = .ok (.invokevirtual i, np - pc)) (hn : np = pc + lenI (.invokevirtual i)) (hj : okJ k pc a b c v w tbl (.invokevirtual i) = true) {a' : Nat} (hx : ex L xs k pc lv st lay h np a b v w tbl (.invokevirtual i) = some (.inr (.inl (true, (a', pa, la, sa), (k', np', lv', rest))))) (hg : lay.length ≤ lay1.length ∧ szl lay ≤ szl lay1) (hR : RoT X lay lay1) (IH : ∀ X, CxT X a' → ScT X L xs a' → RoT X lay lay1 → EndT X a' vs lay1 h1 → Ok X a' pa la sa lay h) (ho : Ok X k np' lv' (vs ++ rest) lay1 h1) : Ok X k pc lv st lay h := by
  obtain ⟨p, l, e, R, s, m, args, below, meth, cc, D, ca, z, b0, l0, s0, Q⟩ := X
  obtain ⟨hk, hxx, hbb, hml, hown, hts, hnw, hini, hfr, hlo, hK⟩ := id hC
  subst hn
  rw [Nat.add_sub_cancel_left] at hd
  simp only [okJ, Bool.and_eq_true, Bool.not_eq_true'] at hj
  simp only [ex] at hx
  obtain ⟨⟨⟨⟨ha, hst⟩, hin⟩, hb⟩, hlk⟩ := hj
  have ha := ble_lt ha
  unfold spV at hx
  cases hsp : spl (mNar a) [] st with
  | none => rw [hsp] at hx; cases hx
  | some q =>
    obtain ⟨as, r0⟩ := q
    rw [hsp] at hx
    cases r0 with
    | nil => cases hx
    | cons q r =>
      cases q with
      | ref p0 =>
        simp only at hx
        obtain ⟨fl, hl0, hx⟩ := ob_s hx
        obtain ⟨c1, c2, c3, c4, c5, c6, c7, c8⟩ := cal_s hx
        simp only [Prod.mk.injEq] at c6 c7
        obtain ⟨rfl, rfl, rfl, rfl⟩ := c6
        obtain ⟨rfl, rfl, rfl, rfl⟩ := c7
        obtain ⟨sp1, sp2⟩ := spl_s _ _ _ _ _ hsp
        simp only [List.reverse_nil, List.nil_append, List.length_nil, Nat.add_zero] at sp1 sp2
        obtain ⟨w1, w2, w3, w4, w5, w6, w7⟩ := code_in ha c5
        obtain ⟨r1, r2, r3, r4⟩ := hR
        intro H locs ls hl hP hS
        have hM := met_of IH ha c5 hg c1 l z b0 D ca
        have hcn := cN_k (mCi_k ha).1
        have hrecv : ∃ cellB : Cell, H[z + p0]? = some cellB ∧ cellB.vm.isStatics = false ∧ s.vm.findClass (mY a').cls = some cellB.cls := va_recv hK hP.1 (vw_at _ (w4 hst).2) (wls_o hl0)
        have hpre : PreV s H (mY a').cls (z + p0) (Pe a' L xs (.ref p0 :: as) z b0 D ca lay h) (as.map (cv z b0)) := ⟨pe_blind, hrecv, pe_at hP hK hnw (sc_at hsc hS c8)⟩
        have hdd : (mY a').cls = (mY a').cls ∧ (mY a').cls ≠ "java/lang/invoke/MethodHandle" ∧ (mY a').cls ≠ "java/lang/invoke/VarHandle" ∧ (parseMethodDescriptor (mY a').desc).map (fun d => d.parameters.length) = some (mNar a') := ⟨rfl, hcn.2.1, hcn.2.2, by rw [w6]; exact dsT_k (mCi_k ha).2⟩
        have hroom : mFr a' + 1 ≤ R.frames ∧ 8 + (mMax a' + 11) + mLo a' ≤ R.locals := ⟨Nat.le_trans c2 hfr, Nat.le_trans c3 hlo⟩
        have hstack : (st.map (cv z b0)) = (as.map (cv z b0)).reverse ++ .ref (z + p0) :: rest.map (cv z b0) := by rw [← sp1, List.map_append, List.map_reverse]; rfl
        have hf : (lay.length - l0) + (lay1.length - lay.length) ≤ R.cells ∧ (szl lay - s0) + (szl lay1 - szl lay) ≤ R.slots := ⟨by omega, by omega⟩
        have hrun : va_Run p l e R s m args below meth cc H locs (lay.length - l0) (szl lay - s0) (lay1.length - lay.length) (szl lay1 - szl lay) (F0 m pc ls (st.map (cv z b0))) (rest.map (cv z b0)) (Qe vs z b0 D ca lay1 h1 (Value.ref (z + p0) :: as.map (cv z b0)).toArray) (fun q => z ≤ q) := by
          simp only [linkM, cond_false] at hlk
          have hlw : Cond.methodLink (cN (mCi k')) i (mY a') ∈ gws := gw_in (wAt_in hlk) rfl
          refine va_runV (own := cN (mCi k')) ⟨hxx, hbb, hml, hown, hts⟩ hM (cwV (Ts := gws) (mNar a') hts (fun w hw => ?_) rfl rfl rfl hdd hroom) hpre rfl (by rw [List.length_map]; exact sp2) hl.1 hstack (lv_room (pc := pc) (ls := ls) (by rw [scat_map]; exact c4)) hd hf
          unfold wsV at hw
          rcases List.mem_append.mp hw with hw | hw
          · simp only [List.mem_cons, List.not_mem_nil, or_false] at hw
            rcases hw with rfl | rfl | rfl | rfl
            · exact ⟨hlw, gws_good hlw⟩
            · exact ⟨(w4 hst).1, gws_good (w4 hst).1⟩
            · exact ⟨w5 hst hin, gws_good (w5 hst hin)⟩
            · exact ⟨w2, gws_good w2⟩
          · exact ws0_good ha c5 w hw
        refine callE hrun hS fun H1 locs1 hP1 hS1 => ?_
        have hw9 := ho H1 locs1 ls hl hP1 hS1
        rw [List.map_append] at hw9
        rw [show lay.length - l0 + (lay1.length - lay.length) = lay1.length - l0 by omega, show szl lay - s0 + (szl lay1 - szl lay) = szl lay1 - s0 by omega]
        exact hw9
      | _ => cases hx
set_option maxHeartbeats 1000000 in
theorem x_special {L : Nat} {xs : Nat → Int32} {X : CT} {k pc np a b c : Nat} {v : Int32} {w : Int64} {tbl : List (Int32 × Nat)} {lv lv' : List (Nat × Value)} {st rest : List Value} {lay lay1 : Lay} {h h1 : Hp} {i pa np' k' : Nat} {la : List (Nat × Value)} {sa vs : List Value} (hC : CxT X k) (hsc : ScT X L xs k) (hkl : k < 137) (hd : decode (mC k) pc = .ok (.invokespecial i, np - pc)) (hn : np = pc + lenI (.invokespecial i)) (hj : okJ k pc a b c v w tbl (.invokespecial i) = true) {a' : Nat} (hx : ex L xs k pc lv st lay h np a b v w tbl (.invokespecial i) = some (.inr (.inl (true, (a', pa, la, sa), (k', np', lv', rest))))) (hg : lay.length ≤ lay1.length ∧ szl lay ≤ szl lay1) (hR : RoT X lay lay1) (IH : ∀ X, CxT X a' → ScT X L xs a' → RoT X lay lay1 → EndT X a' vs lay1 h1 → Ok X a' pa la sa lay h) (ho : Ok X k np' lv' (vs ++ rest) lay1 h1) : Ok X k pc lv st lay h := by
  obtain ⟨p, l, e, R, s, m, args, below, meth, cc, D, ca, z, b0, l0, s0, Q⟩ := X
  obtain ⟨hk, hxx, hbb, hml, hown, hts, hnw, hini, hfr, hlo, hK⟩ := id hC
  subst hn
  rw [Nat.add_sub_cancel_left] at hd
  simp only [okJ] at hj
  simp only [ex] at hx
  cases hb7 : Nat.beq b 7 with
  | true =>
    rw [hb7] at hx
    simp only [cond_true] at hx
    obtain ⟨x, r, rfl, hy⟩ := pR_s hx
    simp [nx] at hy
  | false =>
    rw [hb7] at hx hj
    simp only [cond_false] at hx hj
    simp only [Bool.and_eq_true, Bool.not_eq_true'] at hj
    obtain ⟨⟨⟨⟨ha, hst⟩, hin⟩, hb⟩, hlk⟩ := hj
    have ha := ble_lt ha
    unfold spV at hx
    cases hsp : spl (mNar a) [] st with
    | none => rw [hsp] at hx; cases hx
    | some q =>
      obtain ⟨as, r0⟩ := q
      rw [hsp] at hx
      cases r0 with
      | nil => cases hx
      | cons q r =>
        cases q with
        | ref p0 =>
          simp only at hx
          obtain ⟨fl, hl0, hx⟩ := ob_s hx
          obtain ⟨c1, c2, c3, c4, c5, c6, c7, c8⟩ := cal_s hx
          simp only [Prod.mk.injEq] at c6 c7
          obtain ⟨rfl, rfl, rfl, rfl⟩ := c6
          obtain ⟨rfl, rfl, rfl, rfl⟩ := c7
          obtain ⟨sp1, sp2⟩ := spl_s _ _ _ _ _ hsp
          simp only [List.reverse_nil, List.nil_append, List.length_nil, Nat.add_zero] at sp1 sp2
          obtain ⟨w1, w2, w3, w4, w5, w6, w7⟩ := code_in ha c5
          obtain ⟨r1, r2, r3, r4⟩ := hR
          intro H locs ls hl hP hS
          have hM := met_of IH ha c5 hg c1 l z b0 D ca
          have hcn := cN_k (mCi_k ha).1
          have hpre : PreS s H (Pe a' L xs (.ref p0 :: as) z b0 D ca lay h) (.ref (z + p0) :: as.map (cv z b0)) := ⟨pe_blind, pe_at hP hK hnw (sc_at hsc hS c8)⟩
          have hdd : (mY a').cls ≠ "java/lang/invoke/MethodHandle" ∧ (mY a').cls ≠ "java/lang/invoke/VarHandle" ∧ (parseMethodDescriptor (mY a').desc).map (fun d => d.parameters.length) = some (mNar a') := ⟨hcn.2.1, hcn.2.2, by rw [w6]; exact dsT_k (mCi_k ha).2⟩
          have hroom : mFr a' + 1 ≤ R.frames ∧ 8 + (mMax a' + 11) + mLo a' ≤ R.locals := ⟨Nat.le_trans c2 hfr, Nat.le_trans c3 hlo⟩
          have hstack : (st.map (cv z b0)) = (as.map (cv z b0)).reverse ++ .ref (z + p0) :: rest.map (cv z b0) := by rw [← sp1, List.map_append, List.map_reverse]; rfl
          have hf : (lay.length - l0) + (lay1.length - lay.length) ≤ R.cells ∧ (szl lay - s0) + (szl lay1 - szl lay) ≤ R.slots := ⟨by omega, by omega⟩
          have hnm : (mY a').name = "<init>" := by
            show nmT (mNi a') = "<init>"
            rw [Nat.eq_of_beq_eq_true hin]
            rfl
          have hrn : mRet a' = none := (ret_ok ha c5).1 (w7 hst hin)
          unfold ws0 at hM
          have hG := ws0_good ha c5
          unfold ws0 at hG
          rw [hrn] at hM hG
          have hrun : va_Run p l e R s m args below meth cc H locs (lay.length - l0) (szl lay - s0) (lay1.length - lay.length) (szl lay1 - szl lay) (F0 m pc ls (st.map (cv z b0))) (rest.map (cv z b0)) (Qe vs z b0 D ca lay1 h1 (Value.ref (z + p0) :: as.map (cv z b0)).toArray) (fun q => z ≤ q) := by
            unfold linkM at hlk
            cases hb1 : Nat.beq b 6 with
            | true =>
              rw [hb1] at hlk
              simp only [cond_true] at hlk
              have hlw : Cond.methodLinkNest (cN (mCi k')) i (mY a') "YesNoClones" ∈ nws := nw_in (wAt_in hlk) ⟨_, _, _, _, rfl⟩
              exact va_runIN (own := cN (mCi k')) (host := "YesNoClones") ⟨hxx, hbb, hml, hown, hts⟩ hM ⟨va_cnB (Ts := gws) (mNar a') hts hG rfl rfl rfl (hnw _ hlw) (hts _ w2) hdd hroom, hnm, hts _ (w4 hst).1⟩ hpre rfl (by rw [List.length_map]; exact sp2) hl.1 hstack (lv_room (pc := pc) (ls := ls) (by rw [scat_map]; exact c4)) hd hf
            | false =>
              rw [hb1] at hlk
              simp only [cond_false] at hlk
              have hlw : Cond.methodLink (cN (mCi k')) i (mY a') ∈ gws := gw_in (wAt_in hlk) rfl
              exact va_runI (own := cN (mCi k')) ⟨hxx, hbb, hml, hown, hts⟩ hM (cwI (Ts := gws) (mNar a') hts hG rfl rfl rfl (hts _ w2) (hts _ hlw) (hts _ (w4 hst).1) hnm hdd hroom) hpre rfl (by rw [List.length_map]; exact sp2) hl.1 hstack (lv_room (pc := pc) (ls := ls) (by rw [scat_map]; exact c4)) hd hf
          refine callE hrun hS fun H1 locs1 hP1 hS1 => ?_
          have hw9 := ho H1 locs1 ls hl hP1 hS1
          rw [List.map_append] at hw9
          rw [show lay.length - l0 + (lay1.length - lay.length) = lay1.length - l0 by omega, show szl lay - s0 + (szl lay1 - szl lay) = szl lay1 - s0 by omega]
          exact hw9
        | _ => cases hx
def lfI (k b : Nat) : Instr → Bool
  | .invokestatic _ => (!(Nat.beq b 8) && !(Nat.beq b 9)) || (Nat.ble 1 (mFr k) && Nat.ble 21 (mLo k))
  | .invokespecial _ => !(Nat.beq b 7) || (Nat.ble 1 (mFr k) && Nat.ble 20 (mLo k))
  | _ => true
def lfA (k : Nat) (e : AI) : Bool := match e with
  | (_, ins, _, _, _, b, _, _, _, _) => lfI k b ins
theorem lf_all : ((List.range 137).all fun k => (List.range (mLen k)).all fun pc => lfA k (insT k pc)) = true := by decide +kernel
theorem lf_at {k pc : Nat} (hk : k < 137) (hp : pc < mLen k) : lfA k (insT k pc) = true := List.all_eq_true.mp (List.all_eq_true.mp lf_all k (List.mem_range.mpr hk)) pc (List.mem_range.mpr hp)
theorem x_min {L : Nat} {xs : Nat → Int32} {X : CT} {k pc np a b c : Nat} {v : Int32} {w : Int64} {tbl : List (Int32 × Nat)} {lv lv' : List (Nat × Value)} {st st' : List Value} {lay lay' : Lay} {h h' : Hp} {i pc' : Nat} (hC : CxT X k) (hd : decode (mC k) pc = .ok (.invokestatic i, np - pc)) (hn : np = pc + lenI (.invokestatic i)) (hj : okJ k pc a b c v w tbl (.invokestatic i) = true) (hlf : lfI k b (.invokestatic i) = true) (hx : ex L xs k pc lv st lay h np a b v w tbl (.invokestatic i) = some (.inl (true, pc', lv', st', lay', h'))) (hR : RoT X lay lay') (ho : Ok X k pc' lv' st' lay' h') : Ok X k pc lv st lay h := by
  obtain ⟨p, l, e, R, s, m, args, below, meth, cc, D, ca, z, b0, l0, s0, Q⟩ := X
  obtain ⟨hk, hxx, hbb, hml, hown, hts, hnw, hini, hfr, hlo, hK⟩ := id hC
  subst hn
  rw [Nat.add_sub_cancel_left] at hd
  simp only [okJ] at hj
  simp only [ex] at hx
  simp only [lfI] at hlf
  cases hb9 : Nat.beq b 9 with
  | true =>
    rw [hb9] at hx hj hlf
    simp only [cond_true] at hx hj
    simp only [Bool.not_true, Bool.and_false, Bool.false_or, Bool.and_eq_true] at hlf
    obtain ⟨x, y, r, rfl, hy⟩ := pII_s hx
    obtain ⟨hs, rfl, rfl, rfl, rfl, rfl⟩ := nx_s hy
    obtain ⟨r1, r2, r3, r4⟩ := hR
    have hl1 : Cond.methodLink (cN (mCi k)) i Lib.Math.max.name ∈ gws := gw_in (wAt_in hj) rfl
    intro H locs ls hl hP hS
    exact va_mmax (own := cN (mCi k)) hxx hbb (by rw [hml]; exact hl.1.symm) hown (hts _ hl1) (hts _ (gw_in w_xst rfl)) (hts _ (gw_in w_min rfl)) (hts _ (gw_in w_xco rfl)) (Nat.le_trans (Nat.le_of_ble_eq_true hlf.1) hfr) (by rw [scat_map]; have := Nat.le_of_ble_eq_true hs; have := Nat.le_of_ble_eq_true hlf.2; omega) (by omega) (by omega) hd (ho H locs ls hl hP hS)
  | false =>
  rw [hb9] at hx hj hlf
  simp only [cond_false] at hx hj
  cases hb8 : Nat.beq b 8 with
  | false =>
    rw [hb8] at hx
    simp only [cond_false] at hx
    unfold spS at hx
    split at hx
    · unfold cal at hx
      simp only [frc_eq] at hx
      simp at hx
    · cases hx
  | true =>
    rw [hb8] at hx hj hlf
    simp only [cond_true] at hx hj
    simp only [Bool.not_true, Bool.not_false, Bool.false_and, Bool.false_or, Bool.and_eq_true] at hlf
    obtain ⟨x, y, r, rfl, hy⟩ := pII_s hx
    obtain ⟨hs, rfl, rfl, rfl, rfl, rfl⟩ := nx_s hy
    obtain ⟨r1, r2, r3, r4⟩ := hR
    have hl1 : Cond.methodLink (cN (mCi k)) i Lib.Math.min.name ∈ gws := gw_in (wAt_in hj) rfl
    intro H locs ls hl hP hS
    exact va_mmin (own := cN (mCi k)) hxx hbb (by rw [hml]; exact hl.1.symm) hown (hts _ hl1) (hts _ (gw_in w_mst rfl)) (hts _ (gw_in w_min rfl)) (hts _ (gw_in w_mco rfl)) (Nat.le_trans (Nat.le_of_ble_eq_true hlf.1) hfr) (by rw [scat_map]; have := Nat.le_of_ble_eq_true hs; have := Nat.le_of_ble_eq_true hlf.2; omega) (by omega) (by omega) hd (ho H locs ls hl hP hS)
theorem x_obj {L : Nat} {xs : Nat → Int32} {X : CT} {k pc np a b c : Nat} {v : Int32} {w : Int64} {tbl : List (Int32 × Nat)} {lv lv' : List (Nat × Value)} {st st' : List Value} {lay lay' : Lay} {h h' : Hp} {i pc' : Nat} (hC : CxT X k) (hd : decode (mC k) pc = .ok (.invokespecial i, np - pc)) (hn : np = pc + lenI (.invokespecial i)) (hj : okJ k pc a b c v w tbl (.invokespecial i) = true) (hlf : lfI k b (.invokespecial i) = true) (hx : ex L xs k pc lv st lay h np a b v w tbl (.invokespecial i) = some (.inl (true, pc', lv', st', lay', h'))) (ho : Ok X k pc' lv' st' lay' h') : Ok X k pc lv st lay h := by
  obtain ⟨p, l, e, R, s, m, args, below, meth, cc, D, ca, z, b0, l0, s0, Q⟩ := X
  obtain ⟨hk, hxx, hbb, hml, hown, hts, hnw, hini, hfr, hlo, hK⟩ := id hC
  subst hn
  rw [Nat.add_sub_cancel_left] at hd
  simp only [okJ] at hj
  simp only [ex] at hx
  simp only [lfI] at hlf
  cases hb8 : Nat.beq b 7 with
  | false =>
    rw [hb8] at hx
    simp only [cond_false] at hx
    unfold spV at hx
    split at hx
    · obtain ⟨fl, -, hx⟩ := ob_s hx
      unfold cal at hx
      rw [frc_eq] at hx
      simp at hx
    · cases hx
  | true =>
    rw [hb8] at hx hj hlf
    simp only [cond_true] at hx hj
    simp only [Bool.not_true, Bool.false_or, Bool.and_eq_true] at hlf
    obtain ⟨x, r, rfl, hy⟩ := pR_s hx
    obtain ⟨hs, rfl, rfl, rfl, rfl, rfl⟩ := nx_s hy
    have hl1 : Cond.methodLink (cN (mCi k)) i objectInit ∈ gws := gw_in (wAt_in hj) rfl
    intro H locs ls hl hP hS
    refine W.objInit (own := cN (mCi k)) (rest := st'.map (cv z b0)) hxx hbb hown (hts _ hl1) (hts _ (gw_in w_oin rfl)) (hts _ (gw_in w_oco rfl)) rfl (by rw [hml]; exact hl.1) rfl hd (Nat.le_trans (Nat.le_of_ble_eq_true hlf.1) hfr) (by rw [scat_map]; have := Nat.le_of_ble_eq_true hs; have := Nat.le_of_ble_eq_true hlf.2; show 2 * 0 + _ + 12 ≤ _; omega) (ho H locs ls hl hP hS)
