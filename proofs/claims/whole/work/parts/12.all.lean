/-! A step of the small machine, and all of them. -/
def Mo (lay : Lay) (r : Option Rs) : Prop := ∀ g pc lv st lay' h', r = some (.inl (g, pc, lv, st, lay', h')) → lay.length ≤ lay'.length ∧ szl lay ≤ szl lay'
theorem Mo_nx {lay : Lay} {g : Bool} {pc : Nat} {lv : List (Nat × Value)} {st : List Value} {h : Hp} : Mo lay (nx g pc lv st lay h) := by
  intro g' pc' lv' st' lay' h' e
  simp only [nx, Option.some.injEq, Sum.inl.injEq, Prod.mk.injEq] at e
  obtain ⟨-, -, -, -, rfl, -⟩ := e
  exact ⟨Nat.le_refl _, Nat.le_refl _⟩
theorem Mo_nx2 {lay lay2 : Lay} {g : Bool} {pc : Nat} {lv : List (Nat × Value)} {st : List Value} {h : Hp} (hg : lay.length ≤ lay2.length ∧ szl lay ≤ szl lay2) : Mo lay (nx g pc lv st lay2 h) := by
  intro g' pc' lv' st' lay' h' e
  simp only [nx, Option.some.injEq, Sum.inl.injEq, Prod.mk.injEq] at e
  obtain ⟨-, -, -, -, rfl, -⟩ := e
  exact hg
theorem Mo_none {lay : Lay} : Mo lay none := by intro _ _ _ _ _ _ e; cases e
theorem Mo_ret {lay : Lay} {x} : Mo lay (some (.inr x)) := by intro _ _ _ _ _ _ e; cases e
theorem Mo_cal {lay : Lay} {k np a : Nat} {lv : List (Nat × Value)} {args rest : List Value} : Mo lay (cal k np a lv args rest) := by
  unfold cal
  rw [frc_eq]
  exact Mo_ret
theorem Mo_frc {lay : Lay} {l : List (Nat × Value)} {f : List (Nat × Value) → Option Rs} (h : Mo lay (f l)) : Mo lay (frc l f) := by rw [frc_eq]; exact h
theorem Mo_pI {lay : Lay} {st : List Value} {f} (h : ∀ x r, Mo lay (f x r)) : Mo lay (pI st f) := by unfold pI; split <;> first | exact h _ _ | exact Mo_none
theorem Mo_pII {lay : Lay} {st : List Value} {f} (h : ∀ x y r, Mo lay (f x y r)) : Mo lay (pII st f) := by unfold pII; split <;> first | exact h _ _ _ | exact Mo_none
theorem Mo_pLL {lay : Lay} {st : List Value} {f} (h : ∀ x y r, Mo lay (f x y r)) : Mo lay (pLL st f) := by unfold pLL; split <;> first | exact h _ _ _ | exact Mo_none
theorem Mo_pL {lay : Lay} {st : List Value} {f} (h : ∀ x r, Mo lay (f x r)) : Mo lay (pL st f) := by unfold pL; split <;> first | exact h _ _ | exact Mo_none
theorem Mo_pR {lay : Lay} {st : List Value} {f} (h : ∀ x r, Mo lay (f x r)) : Mo lay (pR st f) := by unfold pR; split <;> first | exact h _ _ | exact Mo_none
theorem Mo_pA {lay : Lay} {st : List Value} {f g} (h : ∀ p i r, Mo lay (f p i r)) (h2 : ∀ i r, Mo lay (g i r)) : Mo lay (pA st f g) := by unfold pA; split <;> first | exact h _ _ _ | exact h2 _ _ | exact Mo_none
theorem Mo_pS {lay : Lay} {st : List Value} {f} (h : ∀ p i x r, Mo lay (f p i x r)) : Mo lay (pS st f) := by unfold pS; split <;> first | exact h _ _ _ _ | exact Mo_none
theorem Mo_pP {lay : Lay} {st : List Value} {f g} (h : ∀ y p r, Mo lay (f y p r)) (h2 : ∀ q p r, Mo lay (g q p r)) : Mo lay (pP st f g) := by unfold pP; split <;> first | exact h _ _ _ | exact h2 _ _ _ | exact Mo_none
theorem Mo_pT {lay : Lay} {st : List Value} {f} (h : ∀ r, Mo lay (f r)) : Mo lay (pT st f) := by unfold pT; split <;> first | exact h _ | exact Mo_none
theorem Mo_p1 {lay : Lay} {st : List Value} {f} (h : ∀ x r, Mo lay (f x r)) : Mo lay (p1 st f) := by unfold p1; split <;> first | exact h _ _ | exact Mo_none
theorem Mo_p2 {lay : Lay} {st : List Value} {f} (h : ∀ x y r, Mo lay (f x y r)) : Mo lay (p2 st f) := by unfold p2; split <;> first | exact h _ _ _ | exact Mo_none
theorem Mo_lI {lay : Lay} {o f} (h : ∀ x, Mo lay (f x)) : Mo lay (lI o f) := by unfold lI; split <;> first | exact h _ | exact Mo_none
theorem Mo_lJ {lay : Lay} {o f} (h : ∀ x, Mo lay (f x)) : Mo lay (lJ o f) := by unfold lJ; split <;> first | exact h _ | exact Mo_none
theorem Mo_lR {lay : Lay} {o f g} (h : ∀ x, Mo lay (f x)) (h2 : ∀ x, Mo lay (g x)) : Mo lay (lR o f g) := by unfold lR; split <;> first | exact h _ | exact h2 _ | exact Mo_none
theorem Mo_gf {lay : Lay} {o d f} (h : ∀ x, Mo lay (f x)) : Mo lay (gf o d f) := by unfold gf; split <;> first | exact h _ | exact Mo_none
theorem Mo_isN {lay : Lay} {o R} (h : Mo lay R) : Mo lay (isN o R) := by unfold isN; split <;> first | exact h | exact Mo_none
theorem Mo_isS {lay : Lay} {o R} (h : Mo lay R) : Mo lay (isS o R) := by unfold isS; split <;> first | exact h | exact Mo_none
theorem Mo_spS {lay : Lay} {o f} (h : ∀ x r, Mo lay (f x r)) : Mo lay (spS o f) := by unfold spS; split <;> first | exact h _ _ | exact Mo_none
theorem Mo_spV {lay : Lay} {o f} (h : ∀ x p r, Mo lay (f x p r)) : Mo lay (spV o f) := by unfold spV; split <;> first | exact h _ _ _ | exact Mo_none
theorem Mo_rI {lay : Lay} {st f} (h : ∀ x, Mo lay (f x)) : Mo lay (rI st f) := by unfold rI; split <;> first | exact h _ | exact Mo_none
theorem Mo_rR {lay : Lay} {st f} (h : ∀ x, Mo lay (f x)) : Mo lay (rR st f) := by unfold rR; split <;> first | exact h _ | exact Mo_none
theorem Mo_rV {lay : Lay} {st R} (h : Mo lay R) : Mo lay (rV st R) := by unfold rV; split <;> first | exact h | exact Mo_none
theorem Mo_ob {lay : Lay} {l2 : Lay} {p ci f} (h : ∀ fl, l2[p]? = some (.inl (ci, fl)) → Mo lay (f fl)) : Mo lay (ob l2 p ci f) := by
  intro g pc lv st lay' h' e
  obtain ⟨fl, h1, h2⟩ := ob_s e
  exact h fl h1 g pc lv st lay' h' h2
theorem Mo_arr {lay : Lay} {l2 : Lay} {p z f} (h : ∀ n, Mo lay (f n)) : Mo lay (arr l2 p z f) := by
  intro g pc lv st lay' h' e
  obtain ⟨n, h1, h2⟩ := arr_s e
  exact h n g pc lv st lay' h' h2
theorem Mo_bif {lay : Lay} {b : Bool} {r r2} (h : Mo lay r) (h2 : Mo lay r2) : Mo lay (bif b then r else r2) := by cases b; exact h2; exact h
set_option maxHeartbeats 4000000 in
theorem Mo_ex {L : Nat} {xs : Nat → Int32} {k pc : Nat} {lv : List (Nat × Value)} {st : List Value} {lay : Lay} {h : Hp} {np a b : Nat} {v : Int32} {w : Int64} {tbl : List (Int32 × Nat)} (ins : Instr) : Mo lay (ex L xs k pc lv st lay h np a b v w tbl ins) := by
  cases ins <;> simp only [ex] <;> first
    | exact Mo_none
    | exact Mo_nx
    | exact Mo_pI fun _ _ => Mo_nx
    | exact Mo_pII fun _ _ _ => Mo_nx
    | exact Mo_lI fun _ => Mo_nx
    | exact Mo_lJ fun _ => Mo_nx
    | exact Mo_lR (fun _ => Mo_nx) (fun _ => Mo_nx)
    | exact Mo_pI fun _ _ => Mo_frc Mo_nx
    | exact Mo_pR fun _ _ => Mo_frc Mo_nx
    | exact Mo_lI fun _ => Mo_frc Mo_nx
    | exact Mo_pLL fun _ _ _ => Mo_nx
    | exact Mo_pL fun _ _ => Mo_nx
    | exact Mo_p1 fun _ _ => Mo_nx
    | exact Mo_p2 fun _ _ _ => Mo_nx
    | exact Mo_pR fun _ _ => Mo_ob fun _ _ => Mo_gf fun _ => Mo_nx
    | exact Mo_pP (fun _ _ _ => Mo_ob fun _ _ => Mo_isN (Mo_isN Mo_nx)) (fun _ _ _ => Mo_ob fun fl hl => Mo_isS (Mo_isS (Mo_nx2 ⟨by rw [List.length_set]; exact Nat.le_refl _, by rw [szl_set hl (by simp [szE])]; exact Nat.le_refl _⟩)))
    | exact Mo_pA (fun _ _ _ => Mo_arr fun _ => Mo_nx) (fun _ _ => Mo_nx)
    | exact Mo_pA (fun _ _ _ => Mo_arr fun _ => Mo_nx) (fun _ _ => Mo_none)
    | exact Mo_pS fun _ _ _ _ => Mo_arr fun _ => Mo_nx
    | exact Mo_pT fun _ => Mo_nx
    | exact Mo_nx2 ⟨by rw [List.length_append]; omega, by rw [szl_app]; omega⟩
    | exact Mo_pI fun _ _ => Mo_nx2 ⟨by rw [List.length_append]; omega, by rw [szl_app]; omega⟩
    | exact Mo_bif (Mo_pII fun _ _ _ => Mo_nx) (Mo_spS fun _ _ => Mo_cal)
    | exact Mo_bif (Mo_pR fun _ _ => Mo_nx) (Mo_spV fun _ _ _ => Mo_ob fun _ _ => Mo_cal)
    | exact Mo_spV fun _ _ _ => Mo_ob fun _ _ => Mo_cal
    | exact Mo_rI fun _ => Mo_ret
    | exact Mo_rR fun _ => Mo_ret
    | exact Mo_rV Mo_ret
theorem exAt_s {L : Nat} {xs : Nat → Int32} {k pc : Nat} {lv : List (Nat × Value)} {st : List Value} {lay : Lay} {h : Hp} {r : Rs} (hk : k < 252) (e : exAt L xs k pc lv st lay h = some r) : ∃ ins np a b c v w tbl lv2, (∀ q ∈ lv2, q ∈ lv) ∧ decode (mC k) pc = .ok (ins, np - pc) ∧ (isSw ins = true ∨ np = pc + lenI ins) ∧ okJ k pc a b c v w tbl ins = true ∧ lfI k b ins = true ∧ ex L xs k pc lv2 st lay h np a b v w tbl ins = some r := by
  unfold exAt at e
  cases hp : Nat.ble (mLen k) pc with
  | true => rw [hp] at e; cases e
  | false =>
    rw [hp] at e
    simp only [cond_false] at e
    have hlt : pc < mLen k := by
      refine Nat.not_le.mp fun q => ?_
      rw [Nat.ble_eq_true_of_le q] at hp
      cases hp
    have h1 := okI_k hk hlt
    have h2 := lf_at hk hlt
    generalize insT k pc = I at e h1 h2
    obtain ⟨p0, ins, np, K, a, b, c, v, w, tbl⟩ := I
    simp only at e
    cases hb : Nat.beq p0 pc with
    | false => rw [hb] at e; cases e
    | true =>
      rw [hb] at e
      simp only [cond_true] at e
      simp only [okI, hb, Bool.not_true, Bool.false_or, Bool.and_eq_true, decide_eq_true_eq, Bool.or_eq_true] at h1
      obtain ⟨⟨⟨g1, -⟩, g3⟩, g4⟩ := h1
      cases hK : Nat.beq K 99 with
      | true =>
        rw [hK] at e
        exact ⟨ins, np, a, b, c, v, w, tbl, lv, fun _ q => q, g1, g3, g4, h2, e⟩
      | false =>
        rw [hK] at e
        simp only [cond_false] at e
        rw [frc_eq] at e
        exact ⟨ins, np, a, b, c, v, w, tbl, kp K lv, fun _ q => mem_kp q, g1, g3, g4, h2, e⟩
theorem exAt_mo {L : Nat} {xs : Nat → Int32} {k pc : Nat} {lv : List (Nat × Value)} {st : List Value} {lay : Lay} {h : Hp} : Mo lay (exAt L xs k pc lv st lay h) := by
  unfold exAt
  refine Mo_bif Mo_none ?_
  generalize insT k pc = I
  obtain ⟨p0, ins, np, K, a, b, c, v, w, tbl⟩ := I
  exact Mo_bif (Mo_bif (Mo_ex ins) (Mo_frc (Mo_ex ins))) Mo_none
theorem big_mo {L : Nat} {xs : Nat → Int32} : ∀ (n : Nat) {k pc : Nat} {lv : List (Nat × Value)} {st vs : List Value} {lay layE : Lay} {h hE : Hp}, big L xs n k pc lv st lay h = some (vs, layE, hE) → lay.length ≤ layE.length ∧ szl lay ≤ szl layE
  | 0, _, _, _, _, _, _, _, _, _, e => by cases e
  | n + 1, k, pc, lv, st, vs, lay, layE, h, hE, e => by
    simp only [big] at e
    split at e
    · rename_i he
      have h1 := exAt_mo _ _ _ _ _ _ he
      have h2 := big_mo n e
      exact ⟨Nat.le_trans h1.1 h2.1, Nat.le_trans h1.2 h2.2⟩
    · split at e
      · rename_i hb
        have h1 := big_mo n hb
        have h2 := big_mo n e
        exact ⟨Nat.le_trans h1.1 h2.1, Nat.le_trans h1.2 h2.2⟩
      · cases e
    · simp only [Option.some.injEq, Prod.mk.injEq] at e
      obtain ⟨-, rfl, -⟩ := e
      exact ⟨Nat.le_refl _, Nat.le_refl _⟩
    · cases e

set_option maxHeartbeats 4000000 in
theorem step_in {L : Nat} {xs : Nat → Int32} {X : CT} {k pc pc' : Nat} {lv lv' : List (Nat × Value)} {st st' : List Value} {lay lay' : Lay} {h h' : Hp} (hk : k < 252) (hC : CxT X k) (he : exAt L xs k pc lv st lay h = some (.inl (true, pc', lv', st', lay', h'))) (hsc : ScT X L xs k) (hR : RoT X lay lay') (ho : Ok X k pc' lv' st' lay' h') : Ok X k pc lv st lay h := by
  obtain ⟨ins, np, a, b, c, v, w, tbl, lv2, hs, hd, hn, hj, hlf, hx⟩ := exAt_s hk he
  refine ok_sub hs ?_
  cases ins with
  | iconst _ => exact x_iconst hC hd (hn.resolve_left (by simp [isSw])) hj hx hsc hR ho
  | bipush _ => exact x_bipush hC hd (hn.resolve_left (by simp [isSw])) hj hx hsc hR ho
  | sipush _ => exact x_sipush hC hd (hn.resolve_left (by simp [isSw])) hj hx hsc hR ho
  | ldc _ => exact x_ldc hC hd (hn.resolve_left (by simp [isSw])) hj hx hsc hR ho
  | ldc_w _ => exact x_ldc_w hC hd (hn.resolve_left (by simp [isSw])) hj hx hsc hR ho
  | lconst _ => exact x_lconst hC hd (hn.resolve_left (by simp [isSw])) hj hx hsc hR ho
  | ldc2_w _ => exact x_ldc2_w hC hd (hn.resolve_left (by simp [isSw])) hj hx hsc hR ho
  | iload_n _ => exact x_iload_n hC hd (hn.resolve_left (by simp [isSw])) hj hx hsc hR ho
  | iload _ => exact x_iload hC hd (hn.resolve_left (by simp [isSw])) hj hx hsc hR ho
  | lload_n _ => exact x_lload_n hC hd (hn.resolve_left (by simp [isSw])) hj hx hsc hR ho
  | lload _ => exact x_lload hC hd (hn.resolve_left (by simp [isSw])) hj hx hsc hR ho
  | aload_n _ => exact x_aload_n hC hd (hn.resolve_left (by simp [isSw])) hj hx hsc hR ho
  | aload _ => exact x_aload hC hd (hn.resolve_left (by simp [isSw])) hj hx hsc hR ho
  | istore_n _ => exact x_istore_n hC hd (hn.resolve_left (by simp [isSw])) hj hx hsc hR ho
  | istore _ => exact x_istore hC hd (hn.resolve_left (by simp [isSw])) hj hx hsc hR ho
  | astore_n _ => exact x_astore_n hC hd (hn.resolve_left (by simp [isSw])) hj hx hsc hR ho
  | astore _ => exact x_astore hC hd (hn.resolve_left (by simp [isSw])) hj hx hsc hR ho
  | iinc _ _ => exact x_iinc hC hd (hn.resolve_left (by simp [isSw])) hj hx hsc hR ho
  | iadd => exact x_iadd hC hd (hn.resolve_left (by simp [isSw])) hj hx hsc hR ho
  | isub => exact x_isub hC hd (hn.resolve_left (by simp [isSw])) hj hx hsc hR ho
  | imul => exact x_imul hC hd (hn.resolve_left (by simp [isSw])) hj hx hsc hR ho
  | iand => exact x_iand hC hd (hn.resolve_left (by simp [isSw])) hj hx hsc hR ho
  | ior => exact x_ior hC hd (hn.resolve_left (by simp [isSw])) hj hx hsc hR ho
  | ixor => exact x_ixor hC hd (hn.resolve_left (by simp [isSw])) hj hx hsc hR ho
  | ishl => exact x_ishl hC hd (hn.resolve_left (by simp [isSw])) hj hx hsc hR ho
  | ishr => exact x_ishr hC hd (hn.resolve_left (by simp [isSw])) hj hx hsc hR ho
  | idiv => exact x_idiv hC hd (hn.resolve_left (by simp [isSw])) hj hx hsc hR ho
  | irem => exact x_irem hC hd (hn.resolve_left (by simp [isSw])) hj hx hsc hR ho
  | ladd => exact x_ladd hC hd (hn.resolve_left (by simp [isSw])) hj hx hsc hR ho
  | lmul => exact x_lmul hC hd (hn.resolve_left (by simp [isSw])) hj hx hsc hR ho
  | land => exact x_land hC hd (hn.resolve_left (by simp [isSw])) hj hx hsc hR ho
  | lrem => exact x_lrem hC hd (hn.resolve_left (by simp [isSw])) hj hx hsc hR ho
  | lcmp => exact x_lcmp hC hd (hn.resolve_left (by simp [isSw])) hj hx hsc hR ho
  | i2l => exact x_i2l hC hd (hn.resolve_left (by simp [isSw])) hj hx hsc hR ho
  | l2i => exact x_l2i hC hd (hn.resolve_left (by simp [isSw])) hj hx hsc hR ho
  | dup => exact x_dup hC hd (hn.resolve_left (by simp [isSw])) hj hx hsc hR ho
  | pop => exact x_pop hC hd (hn.resolve_left (by simp [isSw])) hj hx hsc hR ho
  | dup2 => exact x_dup2 hC hd (hn.resolve_left (by simp [isSw])) hj hx hsc hR ho
  | goto _ => exact x_goto hC hd (hn.resolve_left (by simp [isSw])) hj hx hsc hR ho
  | ifCond _ _ => exact x_ifCond hC hd (hn.resolve_left (by simp [isSw])) hj hx hsc hR ho
  | if_icmp _ _ => exact x_if_icmp hC hd (hn.resolve_left (by simp [isSw])) hj hx hsc hR ho
  | getfield _ => exact x_getfield hC hd (hn.resolve_left (by simp [isSw])) hj hx hsc hR ho
  | putfield _ => exact x_putfield hC hd (hn.resolve_left (by simp [isSw])) hj hx hsc hR ho
  | iaload => exact x_iaload hC hd (hn.resolve_left (by simp [isSw])) hj hx hsc hR ho
  | baload => exact x_baload hC hd (hn.resolve_left (by simp [isSw])) hj hx hsc hR ho
  | iastore => exact x_iastore hC hd (hn.resolve_left (by simp [isSw])) hj hx hsc hR ho
  | bastore => exact x_bastore hC hd (hn.resolve_left (by simp [isSw])) hj hx hsc hR ho
  | arraylength => exact x_arraylength hC hd (hn.resolve_left (by simp [isSw])) hj hx hsc hR ho
  | tableswitch _ _ _ _ => exact x_tableswitch hC hd hj hx ho
  | lookupswitch _ _ => exact x_lookupswitch hC hd hj hx ho
  | new _ => exact x_new hC hd (hn.resolve_left (by simp [isSw])) hj hx hR ho
  | newarray _ => exact x_newarray hC hd (hn.resolve_left (by simp [isSw])) hj hx hR ho
  | invokestatic _ => exact x_min hC hd (hn.resolve_left (by simp [isSw])) hj hlf hx hR ho
  | invokespecial _ => exact x_obj hC hd (hn.resolve_left (by simp [isSw])) hj hlf hx ho
  | invokevirtual _ =>
    simp only [ex] at hx
    unfold spV at hx
    split at hx
    · obtain ⟨fl, -, hx⟩ := ob_s hx
      unfold cal at hx
      simp only [frc_eq] at hx
      simp at hx
    · cases hx
  | ireturn =>
    simp only [ex] at hx
    unfold rI at hx
    split at hx <;> simp at hx
  | areturn =>
    simp only [ex] at hx
    unfold rR at hx
    split at hx <;> simp at hx
  | return_ =>
    simp only [ex] at hx
    unfold rV at hx
    split at hx <;> simp at hx
  | _ => simp [ex] at hx
theorem nx_nc {g : Bool} {pc : Nat} {lv : List (Nat × Value)} {st : List Value} {lay : Lay} {h : Hp} {x} : nx g pc lv st lay h ≠ some (.inr x) := by simp [nx]
def Nc (r : Option Rs) : Prop := ∀ x, r ≠ some (.inr x)
set_option maxHeartbeats 4000000 in
theorem step_call {L : Nat} {xs : Nat → Int32} {X : CT} {k pc a' pa np' k' : Nat} {lv la lv' : List (Nat × Value)} {st sa rest vs : List Value} {lay lay1 : Lay} {h h1 : Hp} (hk : k < 252) (hC : CxT X k) (he : exAt L xs k pc lv st lay h = some (.inr (.inl (true, (a', pa, la, sa), (k', np', lv', rest))))) (hg : lay.length ≤ lay1.length ∧ szl lay ≤ szl lay1) (hR : RoT X lay lay1) (IH : ∀ X, CxT X a' → ScT X L xs a' → RoT X lay lay1 → EndT X a' vs lay1 h1 → Ok X a' pa la sa lay h) (ho : Ok X k np' lv' (vs ++ rest) lay1 h1) : Ok X k pc lv st lay h := by
  obtain ⟨ins, np, a, b, c, v, w, tbl, lv2, hs, hd, hn, hj, hlf, hx⟩ := exAt_s hk he
  refine ok_sub hs ?_
  cases ins with
  | invokestatic _ => exact x_static hC hk hd (hn.resolve_left (by simp [isSw])) hj hx hg hR IH ho
  | invokespecial _ => exact x_special hC hk hd (hn.resolve_left (by simp [isSw])) hj hx hg hR IH ho
  | invokevirtual _ => exact x_virtual hC hk hd (hn.resolve_left (by simp [isSw])) hj hx hg hR IH ho
  | _ =>
    exfalso
    revert hx
    simp only [ex, nx, pI, pII, pL, pLL, pR, pA, pS, pP, pT, p1, p2, lI, lJ, lR, gf, isN, isS, ob, arr, rI, rR, rV, frc_eq]
    first
      | (intro q; cases q; done)
      | (repeat' split) <;> (intro q; cases q)
theorem step_ret {L : Nat} {xs : Nat → Int32} {X : CT} {k pc : Nat} {lv : List (Nat × Value)} {st vs : List Value} {lay : Lay} {h : Hp} (hk : k < 252) (he : exAt L xs k pc lv st lay h = some (.inr (.inr (true, vs)))) (hE : EndT X k vs lay h) : Ok X k pc lv st lay h := by
  obtain ⟨ins, np, a, b, c, v, w, tbl, lv2, hs, hd, hn, hj, hlf, hx⟩ := exAt_s hk he
  refine ok_sub hs ?_
  obtain ⟨p, l, e, R, s, m, args, below, meth, cc, D, ca, z, b0, l0, s0, Q⟩ := X
  sorry
