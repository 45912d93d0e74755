/-! A step of the small machine, and all of them. -/
def Mo (lay : Lay) (r : Option Rs) : Prop := ∀ g pc lv st lay' h', r = some (.inl (g, pc, lv, st, lay', h')) → lay.length ≤ lay'.length ∧ szl lay ≤ szl lay'
theorem Mo_nx {lay : Lay} {g : Bool} {pc : Nat} {lv : List (Nat × Value)} {st : List Value} {h : Hp} : Mo lay (nx g pc lv st lay h) := by
  intro g' pc' lv' st' lay' h' e
  simp only [nx, Option.some.injEq, Sum.inl.injEq, Prod.mk.injEq] at e
  obtain ⟨-, -, -, -, rfl, -⟩ := e
  exact ⟨Nat.le_refl _, Nat.le_refl _⟩
theorem Mo_nx2 {lay lay2 : Lay} {g : Bool} {pc : Nat} {lv : List (Nat × Value)} {st : List Value} {h : Hp} (hg : lay.length ≤ lay2.length ∧ szl lay ≤ szl lay2) : Mo lay (nx g pc lv st lay2 h) := by
  intro g' pc' lv' st' lay' h' e
  simp only [nx, Option.some.injEq, Sum.inl.injEq, Prod.mk.injEq] at e
  obtain ⟨-, -, -, -, rfl, -⟩ := e
  exact hg
theorem Mo_none {lay : Lay} : Mo lay none := by intro _ _ _ _ _ _ e; cases e
theorem Mo_ret {lay : Lay} {x} : Mo lay (some (.inr x)) := by intro _ _ _ _ _ _ e; cases e
theorem Mo_cal {lay : Lay} {k np a : Nat} {lv : List (Nat × Value)} {args rest : List Value} : Mo lay (cal k np a lv args rest) := by
  unfold cal
  rw [frc_eq]
  exact Mo_ret
theorem Mo_frc {lay : Lay} {l : List (Nat × Value)} {f : List (Nat × Value) → Option Rs} (h : Mo lay (f l)) : Mo lay (frc l f) := by rw [frc_eq]; exact h
theorem Mo_pI {lay : Lay} {st : List Value} {f} (h : ∀ x r, Mo lay (f x r)) : Mo lay (pI st f) := by unfold pI; split <;> first | exact h _ _ | exact Mo_none
theorem Mo_pII {lay : Lay} {st : List Value} {f} (h : ∀ x y r, Mo lay (f x y r)) : Mo lay (pII st f) := by unfold pII; split <;> first | exact h _ _ _ | exact Mo_none
theorem Mo_pLL {lay : Lay} {st : List Value} {f} (h : ∀ x y r, Mo lay (f x y r)) : Mo lay (pLL st f) := by unfold pLL; split <;> first | exact h _ _ _ | exact Mo_none
theorem Mo_pL {lay : Lay} {st : List Value} {f} (h : ∀ x r, Mo lay (f x r)) : Mo lay (pL st f) := by unfold pL; split <;> first | exact h _ _ | exact Mo_none
theorem Mo_pR {lay : Lay} {st : List Value} {f} (h : ∀ x r, Mo lay (f x r)) : Mo lay (pR st f) := by unfold pR; split <;> first | exact h _ _ | exact Mo_none
theorem Mo_pA {lay : Lay} {st : List Value} {f g} (h : ∀ p i r, Mo lay (f p i r)) (h2 : ∀ i r, Mo lay (g i r)) : Mo lay (pA st f g) := by unfold pA; split <;> first | exact h _ _ _ | exact h2 _ _ | exact Mo_none
theorem Mo_pS {lay : Lay} {st : List Value} {f} (h : ∀ p i x r, Mo lay (f p i x r)) : Mo lay (pS st f) := by unfold pS; split <;> first | exact h _ _ _ _ | exact Mo_none
theorem Mo_pP {lay : Lay} {st : List Value} {f g} (h : ∀ y p r, Mo lay (f y p r)) (h2 : ∀ q p r, Mo lay (g q p r)) : Mo lay (pP st f g) := by unfold pP; split <;> first | exact h _ _ _ | exact h2 _ _ _ | exact Mo_none
theorem Mo_pT {lay : Lay} {st : List Value} {f} (h : ∀ r, Mo lay (f r)) : Mo lay (pT st f) := by unfold pT; split <;> first | exact h _ | exact Mo_none
theorem Mo_p1 {lay : Lay} {st : List Value} {f} (h : ∀ x r, Mo lay (f x r)) : Mo lay (p1 st f) := by unfold p1; split <;> first | exact h _ _ | exact Mo_none
theorem Mo_p2 {lay : Lay} {st : List Value} {f} (h : ∀ x y r, Mo lay (f x y r)) : Mo lay (p2 st f) := by unfold p2; split <;> first | exact h _ _ _ | exact Mo_none
theorem Mo_lI {lay : Lay} {o f} (h : ∀ x, Mo lay (f x)) : Mo lay (lI o f) := by unfold lI; split <;> first | exact h _ | exact Mo_none
theorem Mo_lJ {lay : Lay} {o f} (h : ∀ x, Mo lay (f x)) : Mo lay (lJ o f) := by unfold lJ; split <;> first | exact h _ | exact Mo_none
theorem Mo_lR {lay : Lay} {o f g} (h : ∀ x, Mo lay (f x)) (h2 : ∀ x, Mo lay (g x)) : Mo lay (lR o f g) := by unfold lR; split <;> first | exact h _ | exact h2 _ | exact Mo_none
theorem Mo_gf {lay : Lay} {o d f} (h : ∀ x, Mo lay (f x)) : Mo lay (gf o d f) := by unfold gf; split <;> first | exact h _ | exact Mo_none
theorem Mo_isN {lay : Lay} {o R} (h : Mo lay R) : Mo lay (isN o R) := by unfold isN; split <;> first | exact h | exact Mo_none
theorem Mo_isS {lay : Lay} {o R} (h : Mo lay R) : Mo lay (isS o R) := by unfold isS; split <;> first | exact h | exact Mo_none
theorem Mo_spS {lay : Lay} {o f} (h : ∀ x r, Mo lay (f x r)) : Mo lay (spS o f) := by unfold spS; split <;> first | exact h _ _ | exact Mo_none
theorem Mo_spV {lay : Lay} {o f} (h : ∀ x p r, Mo lay (f x p r)) : Mo lay (spV o f) := by unfold spV; split <;> first | exact h _ _ _ | exact Mo_none
theorem Mo_rI {lay : Lay} {st f} (h : ∀ x, Mo lay (f x)) : Mo lay (rI st f) := by unfold rI; split <;> first | exact h _ | exact Mo_none
theorem Mo_rR {lay : Lay} {st f} (h : ∀ x, Mo lay (f x)) : Mo lay (rR st f) := by unfold rR; split <;> first | exact h _ | exact Mo_none
theorem Mo_rV {lay : Lay} {st R} (h : Mo lay R) : Mo lay (rV st R) := by unfold rV; split <;> first | exact h | exact Mo_none
theorem Mo_ob {lay : Lay} {l2 : Lay} {p ci f} (h : ∀ fl, l2[p]? = some (.inl (ci, fl)) → Mo lay (f fl)) : Mo lay (ob l2 p ci f) := by
  intro g pc lv st lay' h' e
  obtain ⟨fl, h1, h2⟩ := ob_s e
  exact h fl h1 g pc lv st lay' h' h2
theorem Mo_arr {lay : Lay} {l2 : Lay} {p z f} (h : ∀ n, Mo lay (f n)) : Mo lay (arr l2 p z f) := by
  intro g pc lv st lay' h' e
  obtain ⟨n, h1, h2⟩ := arr_s e
  exact h n g pc lv st lay' h' h2
theorem Mo_bif {lay : Lay} {b : Bool} {r r2} (h : Mo lay r) (h2 : Mo lay r2) : Mo lay (bif b then r else r2) := by cases b; exact h2; exact h
set_option maxHeartbeats 4000000 in
theorem Mo_ex {L : Nat} {xs : Nat → Int32} {k pc : Nat} {lv : List (Nat × Value)} {st : List Value} {lay : Lay} {h : Hp} {np a b : Nat} {v : Int32} {w : Int64} {tbl : List (Int32 × Nat)} (ins : Instr) : Mo lay (ex L xs k pc lv st lay h np a b v w tbl ins) := by
  cases ins <;> simp only [ex] <;> first
    | exact Mo_none
    | exact Mo_nx
    | exact Mo_pI fun _ _ => Mo_nx
    | exact Mo_pII fun _ _ _ => Mo_nx
    | exact Mo_lI fun _ => Mo_nx
    | exact Mo_lJ fun _ => Mo_nx
    | exact Mo_lR (fun _ => Mo_nx) (fun _ => Mo_nx)
    | exact Mo_pI fun _ _ => Mo_frc Mo_nx
    | exact Mo_pR fun _ _ => Mo_frc Mo_nx
    | exact Mo_lI fun _ => Mo_frc Mo_nx
    | exact Mo_pLL fun _ _ _ => Mo_nx
    | exact Mo_pL fun _ _ => Mo_nx
    | exact Mo_p1 fun _ _ => Mo_nx
    | exact Mo_p2 fun _ _ _ => Mo_nx
    | exact Mo_pR fun _ _ => Mo_ob fun _ _ => Mo_gf fun _ => Mo_nx
    | exact Mo_pP (fun _ _ _ => Mo_ob fun _ _ => Mo_isN (Mo_isN Mo_nx)) (fun _ _ _ => Mo_ob fun fl hl => Mo_isS (Mo_isS (Mo_nx2 ⟨by rw [List.length_set]; exact Nat.le_refl _, by rw [szl_set hl (by simp [szE])]; exact Nat.le_refl _⟩)))
    | exact Mo_pA (fun _ _ _ => Mo_arr fun _ => Mo_nx) (fun _ _ => Mo_nx)
    | exact Mo_pA (fun _ _ _ => Mo_arr fun _ => Mo_nx) (fun _ _ => Mo_none)
    | exact Mo_pS fun _ _ _ _ => Mo_arr fun _ => Mo_nx
    | exact Mo_pT fun _ => Mo_nx
    | exact Mo_nx2 ⟨by rw [List.length_append]; omega, by rw [szl_app]; omega⟩
    | exact Mo_pI fun _ _ => Mo_nx2 ⟨by rw [List.length_append]; omega, by rw [szl_app]; omega⟩
    | exact Mo_bif (Mo_pII fun _ _ _ => Mo_nx) (Mo_bif (Mo_pII fun _ _ _ => Mo_nx) (Mo_spS fun _ _ => Mo_cal))
    | exact Mo_bif (Mo_pR fun _ _ => Mo_nx) (Mo_spV fun _ _ _ => Mo_ob fun _ _ => Mo_cal)
    | exact Mo_spV fun _ _ _ => Mo_ob fun _ _ => Mo_cal
    | exact Mo_rI fun _ => Mo_ret
    | exact Mo_rR fun _ => Mo_ret
    | exact Mo_rV Mo_ret
theorem exAt_s {L : Nat} {xs : Nat → Int32} {k pc : Nat} {lv : List (Nat × Value)} {st : List Value} {lay : Lay} {h : Hp} {r : Rs} (hk : k < 137) (e : exAt L xs k pc lv st lay h = some r) : ∃ ins np a b c v w tbl lv2, (∀ q ∈ lv2, q ∈ lv) ∧ decode (mC k) pc = .ok (ins, np - pc) ∧ (isSw ins = true ∨ np = pc + lenI ins) ∧ okJ k pc a b c v w tbl ins = true ∧ lfI k b ins = true ∧ ex L xs k pc lv2 st lay h np a b v w tbl ins = some r := by
  unfold exAt at e
  cases hp : Nat.ble (mLen k) pc with
  | true => rw [hp] at e; cases e
  | false =>
    rw [hp] at e
    simp only [cond_false] at e
    have hlt : pc < mLen k := by
      refine Nat.not_le.mp fun q => ?_
      rw [Nat.ble_eq_true_of_le q] at hp
      cases hp
    have h1 := okI_k hk hlt
    have h2 := lf_at hk hlt
    generalize insT k pc = I at e h1 h2
    obtain ⟨p0, ins, np, K, a, b, c, v, w, tbl⟩ := I
    simp only at e
    cases hb : Nat.beq p0 pc with
    | false => rw [hb] at e; cases e
    | true =>
      rw [hb] at e
      simp only [cond_true] at e
      simp only [okI, hb, Bool.not_true, Bool.false_or, Bool.and_eq_true, decide_eq_true_eq, Bool.or_eq_true] at h1
      obtain ⟨⟨⟨g1, -⟩, g3⟩, g4⟩ := h1
      cases hK : Nat.beq K 99 with
      | true =>
        rw [hK] at e
        exact ⟨ins, np, a, b, c, v, w, tbl, lv, fun _ q => q, g1, g3, g4, h2, e⟩
      | false =>
        rw [hK] at e
        simp only [cond_false] at e
        rw [frc_eq] at e
        exact ⟨ins, np, a, b, c, v, w, tbl, kp K lv, fun _ q => mem_kp q, g1, g3, g4, h2, e⟩
theorem exAt_mo {L : Nat} {xs : Nat → Int32} {k pc : Nat} {lv : List (Nat × Value)} {st : List Value} {lay : Lay} {h : Hp} : Mo lay (exAt L xs k pc lv st lay h) := by
  unfold exAt
  refine Mo_bif Mo_none ?_
  generalize insT k pc = I
  obtain ⟨p0, ins, np, K, a, b, c, v, w, tbl⟩ := I
  exact Mo_bif (Mo_bif (Mo_ex ins) (Mo_frc (Mo_ex ins))) Mo_none
theorem big_mo {L : Nat} {xs : Nat → Int32} : ∀ (n : Nat) {k pc : Nat} {lv : List (Nat × Value)} {st vs : List Value} {lay layE : Lay} {h hE : Hp}, big L xs n k pc lv st lay h = some (vs, layE, hE) → lay.length ≤ layE.length ∧ szl lay ≤ szl layE
  | 0, _, _, _, _, _, _, _, _, _, e => by cases e
  | n + 1, k, pc, lv, st, vs, lay, layE, h, hE, e => by
    simp only [big] at e
    split at e
    · rename_i he
      have h1 := exAt_mo _ _ _ _ _ _ he
      have h2 := big_mo n e
      exact ⟨Nat.le_trans h1.1 h2.1, Nat.le_trans h1.2 h2.2⟩
    · split at e
      · rename_i hb
        have h1 := big_mo n hb
        have h2 := big_mo n e
        exact ⟨Nat.le_trans h1.1 h2.1, Nat.le_trans h1.2 h2.2⟩
      · cases e
    · simp only [Option.some.injEq, Prod.mk.injEq] at e
      obtain ⟨-, rfl, -⟩ := e
      exact ⟨Nat.le_refl _, Nat.le_refl _⟩
    · cases e

set_option maxHeartbeats 4000000 in
theorem step_in {L : Nat} {xs : Nat → Int32} {X : CT} {k pc pc' : Nat} {lv lv' : List (Nat × Value)} {st st' : List Value} {lay lay' : Lay} {h h' : Hp} (hk : k < 137) (hC : CxT X k) (he : exAt L xs k pc lv st lay h = some (.inl (true, pc', lv', st', lay', h'))) (hsc : ScT X L xs k) (hR : RoT X lay lay') (ho : Ok X k pc' lv' st' lay' h') : Ok X k pc lv st lay h := by
  obtain ⟨ins, np, a, b, c, v, w, tbl, lv2, hs, hd, hn, hj, hlf, hx⟩ := exAt_s hk he
  refine ok_sub hs ?_
  cases ins with
  | iconst _ => exact x_iconst hC hd (hn.resolve_left (by simp [isSw])) hj hx hsc hR ho
  | bipush _ => exact x_bipush hC hd (hn.resolve_left (by simp [isSw])) hj hx hsc hR ho
  | sipush _ => exact x_sipush hC hd (hn.resolve_left (by simp [isSw])) hj hx hsc hR ho
  | ldc _ => exact x_ldc hC hd (hn.resolve_left (by simp [isSw])) hj hx hsc hR ho
  | ldc_w _ => exact x_ldc_w hC hd (hn.resolve_left (by simp [isSw])) hj hx hsc hR ho
  | lconst _ => exact x_lconst hC hd (hn.resolve_left (by simp [isSw])) hj hx hsc hR ho
  | ldc2_w _ => exact x_ldc2_w hC hd (hn.resolve_left (by simp [isSw])) hj hx hsc hR ho
  | iload_n _ => exact x_iload_n hC hd (hn.resolve_left (by simp [isSw])) hj hx hsc hR ho
  | iload _ => exact x_iload hC hd (hn.resolve_left (by simp [isSw])) hj hx hsc hR ho
  | lload_n _ => exact x_lload_n hC hd (hn.resolve_left (by simp [isSw])) hj hx hsc hR ho
  | lload _ => exact x_lload hC hd (hn.resolve_left (by simp [isSw])) hj hx hsc hR ho
  | aload_n _ => exact x_aload_n hC hd (hn.resolve_left (by simp [isSw])) hj hx hsc hR ho
  | aload _ => exact x_aload hC hd (hn.resolve_left (by simp [isSw])) hj hx hsc hR ho
  | istore_n _ => exact x_istore_n hC hd (hn.resolve_left (by simp [isSw])) hj hx hsc hR ho
  | istore _ => exact x_istore hC hd (hn.resolve_left (by simp [isSw])) hj hx hsc hR ho
  | astore_n _ => exact x_astore_n hC hd (hn.resolve_left (by simp [isSw])) hj hx hsc hR ho
  | astore _ => exact x_astore hC hd (hn.resolve_left (by simp [isSw])) hj hx hsc hR ho
  | iinc _ _ => exact x_iinc hC hd (hn.resolve_left (by simp [isSw])) hj hx hsc hR ho
  | iadd => exact x_iadd hC hd (hn.resolve_left (by simp [isSw])) hj hx hsc hR ho
  | isub => exact x_isub hC hd (hn.resolve_left (by simp [isSw])) hj hx hsc hR ho
  | imul => exact x_imul hC hd (hn.resolve_left (by simp [isSw])) hj hx hsc hR ho
  | iand => exact x_iand hC hd (hn.resolve_left (by simp [isSw])) hj hx hsc hR ho
  | ior => exact x_ior hC hd (hn.resolve_left (by simp [isSw])) hj hx hsc hR ho
  | ixor => exact x_ixor hC hd (hn.resolve_left (by simp [isSw])) hj hx hsc hR ho
  | ishl => exact x_ishl hC hd (hn.resolve_left (by simp [isSw])) hj hx hsc hR ho
  | ishr => exact x_ishr hC hd (hn.resolve_left (by simp [isSw])) hj hx hsc hR ho
  | idiv => exact x_idiv hC hd (hn.resolve_left (by simp [isSw])) hj hx hsc hR ho
  | irem => exact x_irem hC hd (hn.resolve_left (by simp [isSw])) hj hx hsc hR ho
  | ladd => exact x_ladd hC hd (hn.resolve_left (by simp [isSw])) hj hx hsc hR ho
  | lmul => exact x_lmul hC hd (hn.resolve_left (by simp [isSw])) hj hx hsc hR ho
  | land => exact x_land hC hd (hn.resolve_left (by simp [isSw])) hj hx hsc hR ho
  | lrem => exact x_lrem hC hd (hn.resolve_left (by simp [isSw])) hj hx hsc hR ho
  | lcmp => exact x_lcmp hC hd (hn.resolve_left (by simp [isSw])) hj hx hsc hR ho
  | i2l => exact x_i2l hC hd (hn.resolve_left (by simp [isSw])) hj hx hsc hR ho
  | l2i => exact x_l2i hC hd (hn.resolve_left (by simp [isSw])) hj hx hsc hR ho
  | dup => exact x_dup hC hd (hn.resolve_left (by simp [isSw])) hj hx hsc hR ho
  | pop => exact x_pop hC hd (hn.resolve_left (by simp [isSw])) hj hx hsc hR ho
  | dup2 => exact x_dup2 hC hd (hn.resolve_left (by simp [isSw])) hj hx hsc hR ho
  | goto _ => exact x_goto hC hd (hn.resolve_left (by simp [isSw])) hj hx hsc hR ho
  | ifCond _ _ => exact x_ifCond hC hd (hn.resolve_left (by simp [isSw])) hj hx hsc hR ho
  | if_icmp _ _ => exact x_if_icmp hC hd (hn.resolve_left (by simp [isSw])) hj hx hsc hR ho
  | getfield _ => exact x_getfield hC hd (hn.resolve_left (by simp [isSw])) hj hx hsc hR ho
  | putfield _ => exact x_putfield hC hd (hn.resolve_left (by simp [isSw])) hj hx hsc hR ho
  | iaload => exact x_iaload hC hd (hn.resolve_left (by simp [isSw])) hj hx hsc hR ho
  | baload => exact x_baload hC hd (hn.resolve_left (by simp [isSw])) hj hx hsc hR ho
  | iastore => exact x_iastore hC hd (hn.resolve_left (by simp [isSw])) hj hx hsc hR ho
  | bastore => exact x_bastore hC hd (hn.resolve_left (by simp [isSw])) hj hx hsc hR ho
  | arraylength => exact x_arraylength hC hd (hn.resolve_left (by simp [isSw])) hj hx hsc hR ho
  | tableswitch _ _ _ _ => exact x_tableswitch hC hd hj hx ho
  | lookupswitch _ _ => exact x_lookupswitch hC hd hj hx ho
  | new _ => exact x_new hC hd (hn.resolve_left (by simp [isSw])) hj hx hR ho
  | newarray _ => exact x_newarray hC hd (hn.resolve_left (by simp [isSw])) hj hx hR ho
  | invokestatic _ => exact x_min hC hd (hn.resolve_left (by simp [isSw])) hj hlf hx hR ho
  | invokespecial _ => exact x_obj hC hd (hn.resolve_left (by simp [isSw])) hj hlf hx ho
  | invokevirtual _ =>
    simp only [ex] at hx
    unfold spV at hx
    split at hx
    · obtain ⟨fl, -, hx⟩ := ob_s hx
      unfold cal at hx
      simp only [frc_eq] at hx
      simp at hx
    · cases hx
  | ireturn =>
    simp only [ex] at hx
    unfold rI at hx
    split at hx <;> simp at hx
  | areturn =>
    simp only [ex] at hx
    unfold rR at hx
    split at hx <;> simp at hx
  | return_ =>
    simp only [ex] at hx
    unfold rV at hx
    split at hx <;> simp at hx
  | _ => simp [ex] at hx
section GEN
variable {P : Option Rs → Prop}
theorem G_frc {l : List (Nat × Value)} {f : List (Nat × Value) → Option Rs} (h : P (f l)) : P (frc l f) := by rw [frc_eq]; exact h
theorem G_pI (h0 : P none) {st : List Value} {f} (h : ∀ x r, P (f x r)) : P (pI st f) := by unfold pI; split <;> first | exact h _ _ | exact h0
theorem G_pII (h0 : P none) {st : List Value} {f} (h : ∀ x y r, P (f x y r)) : P (pII st f) := by unfold pII; split <;> first | exact h _ _ _ | exact h0
theorem G_pLL (h0 : P none) {st : List Value} {f} (h : ∀ x y r, P (f x y r)) : P (pLL st f) := by unfold pLL; split <;> first | exact h _ _ _ | exact h0
theorem G_pL (h0 : P none) {st : List Value} {f} (h : ∀ x r, P (f x r)) : P (pL st f) := by unfold pL; split <;> first | exact h _ _ | exact h0
theorem G_pR (h0 : P none) {st : List Value} {f} (h : ∀ x r, P (f x r)) : P (pR st f) := by unfold pR; split <;> first | exact h _ _ | exact h0
theorem G_pA (h0 : P none) {st : List Value} {f g} (h : ∀ p i r, P (f p i r)) (h2 : ∀ i r, P (g i r)) : P (pA st f g) := by unfold pA; split <;> first | exact h _ _ _ | exact h2 _ _ | exact h0
theorem G_pS (h0 : P none) {st : List Value} {f} (h : ∀ p i x r, P (f p i x r)) : P (pS st f) := by unfold pS; split <;> first | exact h _ _ _ _ | exact h0
theorem G_pP (h0 : P none) {st : List Value} {f g} (h : ∀ y p r, P (f y p r)) (h2 : ∀ q p r, P (g q p r)) : P (pP st f g) := by unfold pP; split <;> first | exact h _ _ _ | exact h2 _ _ _ | exact h0
theorem G_pT (h0 : P none) {st : List Value} {f} (h : ∀ r, P (f r)) : P (pT st f) := by unfold pT; split <;> first | exact h _ | exact h0
theorem G_p1 (h0 : P none) {st : List Value} {f} (h : ∀ x r, P (f x r)) : P (p1 st f) := by unfold p1; split <;> first | exact h _ _ | exact h0
theorem G_p2 (h0 : P none) {st : List Value} {f} (h : ∀ x y r, P (f x y r)) : P (p2 st f) := by unfold p2; split <;> first | exact h _ _ _ | exact h0
theorem G_lI (h0 : P none) {o f} (h : ∀ x, P (f x)) : P (lI o f) := by unfold lI; split <;> first | exact h _ | exact h0
theorem G_lJ (h0 : P none) {o f} (h : ∀ x, P (f x)) : P (lJ o f) := by unfold lJ; split <;> first | exact h _ | exact h0
theorem G_lR (h0 : P none) {o f g} (h : ∀ x, P (f x)) (h2 : ∀ x, P (g x)) : P (lR o f g) := by unfold lR; split <;> first | exact h _ | exact h2 _ | exact h0
theorem G_gf (h0 : P none) {o d f} (h : ∀ x, P (f x)) : P (gf o d f) := by unfold gf; split <;> first | exact h _ | exact h0
theorem G_isN (h0 : P none) {o R} (h : P R) : P (isN o R) := by unfold isN; split <;> first | exact h | exact h0
theorem G_isS (h0 : P none) {o R} (h : P R) : P (isS o R) := by unfold isS; split <;> first | exact h | exact h0
theorem G_spS (h0 : P none) {o f} (h : ∀ x r, P (f x r)) : P (spS o f) := by unfold spS; split <;> first | exact h _ _ | exact h0
theorem G_spV (h0 : P none) {o f} (h : ∀ x p r, P (f x p r)) : P (spV o f) := by unfold spV; split <;> first | exact h _ _ _ | exact h0
theorem G_rI (h0 : P none) {st f} (h : ∀ x, P (f x)) : P (rI st f) := by unfold rI; split <;> first | exact h _ | exact h0
theorem G_rR (h0 : P none) {st f} (h : ∀ x, P (f x)) : P (rR st f) := by unfold rR; split <;> first | exact h _ | exact h0
theorem G_rV (h0 : P none) {st R} (h : P R) : P (rV st R) := by unfold rV; split <;> first | exact h | exact h0
theorem G_bif {b : Bool} {r r2} (h : P r) (h2 : P r2) : P (bif b then r else r2) := by cases b; exact h2; exact h
theorem G_ob (h0 : P none) {l2 : Lay} {p ci f} (h : ∀ fl, P (f fl)) : P (ob l2 p ci f) := by
  unfold ob
  split
  · exact G_bif (h _) h0
  · exact h0
theorem G_arr (h0 : P none) {l2 : Lay} {p z f} (h : ∀ n, P (f n)) : P (arr l2 p z f) := by
  unfold arr
  split
  · exact G_bif (h _) h0
  · exact h0
end GEN
/-- neither a call nor an end / no end -/
def Nc (r : Option Rs) : Prop := ∀ x, r ≠ some (.inr x)
def Nr (r : Option Rs) : Prop := ∀ x, r ≠ some (.inr (.inr x))
theorem Nc0 : Nc none := fun _ e => by cases e
theorem Nr0 : Nr none := fun _ e => by cases e
theorem Nc_nx {g : Bool} {pc : Nat} {lv : List (Nat × Value)} {st : List Value} {lay : Lay} {h : Hp} : Nc (nx g pc lv st lay h) := fun _ e => by simp [nx] at e
theorem Nr_nx {g : Bool} {pc : Nat} {lv : List (Nat × Value)} {st : List Value} {lay : Lay} {h : Hp} : Nr (nx g pc lv st lay h) := fun _ e => by simp [nx] at e
theorem Nr_cal {k np a : Nat} {lv : List (Nat × Value)} {args rest : List Value} : Nr (cal k np a lv args rest) := fun _ e => by
  unfold cal at e
  rw [frc_eq] at e
  simp at e
def isCR : Instr → Bool
  | .invokestatic _ => true
  | .invokespecial _ => true
  | .invokevirtual _ => true
  | .ireturn => true
  | .areturn => true
  | .return_ => true
  | _ => false
set_option maxHeartbeats 4000000 in
theorem Nc_ex {L : Nat} {xs : Nat → Int32} {k pc : Nat} {lv : List (Nat × Value)} {st : List Value} {lay : Lay} {h : Hp} {np a b : Nat} {v : Int32} {w : Int64} {tbl : List (Int32 × Nat)} (ins : Instr) (hi : isCR ins = false) : Nc (ex L xs k pc lv st lay h np a b v w tbl ins) := by
  cases ins <;> simp only [ex] <;> first
    | exact Nc0
    | exact Nc_nx
    | exact G_pI Nc0 fun _ _ => Nc_nx
    | exact G_pII Nc0 fun _ _ _ => Nc_nx
    | exact G_lI Nc0 fun _ => Nc_nx
    | exact G_lJ Nc0 fun _ => Nc_nx
    | exact G_lR Nc0 (fun _ => Nc_nx) (fun _ => Nc_nx)
    | exact G_pI Nc0 fun _ _ => G_frc Nc_nx
    | exact G_pR Nc0 fun _ _ => G_frc Nc_nx
    | exact G_lI Nc0 fun _ => G_frc Nc_nx
    | exact G_pLL Nc0 fun _ _ _ => Nc_nx
    | exact G_pL Nc0 fun _ _ => Nc_nx
    | exact G_p1 Nc0 fun _ _ => Nc_nx
    | exact G_p2 Nc0 fun _ _ _ => Nc_nx
    | exact G_pR Nc0 fun _ _ => G_ob Nc0 fun _ => G_gf Nc0 fun _ => Nc_nx
    | exact G_pP Nc0 (fun _ _ _ => G_ob Nc0 fun _ => G_isN Nc0 (G_isN Nc0 Nc_nx)) (fun _ _ _ => G_ob Nc0 fun _ => G_isS Nc0 (G_isS Nc0 Nc_nx))
    | exact G_pA Nc0 (fun _ _ _ => G_arr Nc0 fun _ => Nc_nx) (fun _ _ => Nc_nx)
    | exact G_pA Nc0 (fun _ _ _ => G_arr Nc0 fun _ => Nc_nx) (fun _ _ => Nc0)
    | exact G_pS Nc0 fun _ _ _ _ => G_arr Nc0 fun _ => Nc_nx
    | exact G_pT Nc0 fun _ => Nc_nx
    | (simp [isCR] at hi; done)
set_option maxHeartbeats 4000000 in
theorem step_call {L : Nat} {xs : Nat → Int32} {X : CT} {k pc a' pa np' k' : Nat} {lv la lv' : List (Nat × Value)} {st sa rest vs : List Value} {lay lay1 : Lay} {h h1 : Hp} (hk : k < 137) (hC : CxT X k) (hsc : ScT X L xs k) (he : exAt L xs k pc lv st lay h = some (.inr (.inl (true, (a', pa, la, sa), (k', np', lv', rest))))) (hg : lay.length ≤ lay1.length ∧ szl lay ≤ szl lay1) (hR : RoT X lay lay1) (IH : ∀ X, CxT X a' → ScT X L xs a' → RoT X lay lay1 → EndT X a' vs lay1 h1 → Ok X a' pa la sa lay h) (ho : Ok X k np' lv' (vs ++ rest) lay1 h1) : Ok X k pc lv st lay h := by
  obtain ⟨ins, np, a, b, c, v, w, tbl, lv2, hs, hd, hn, hj, hlf, hx⟩ := exAt_s hk he
  refine ok_sub hs ?_
  cases ins with
  | invokestatic _ => exact x_static hC hsc hk hd (hn.resolve_left (by simp [isSw])) hj hx hg hR IH ho
  | invokespecial _ => exact x_special hC hsc hk hd (hn.resolve_left (by simp [isSw])) hj hx hg hR IH ho
  | invokevirtual _ => exact x_virtual hC hsc hk hd (hn.resolve_left (by simp [isSw])) hj hx hg hR IH ho
  | ireturn =>
    simp only [ex] at hx
    unfold rI at hx
    split at hx <;> simp at hx
  | areturn =>
    simp only [ex] at hx
    unfold rR at hx
    split at hx <;> simp at hx
  | return_ =>
    simp only [ex] at hx
    unfold rV at hx
    split at hx <;> simp at hx
  | _ => exact absurd hx (Nc_ex _ rfl _)
theorem step_ret {L : Nat} {xs : Nat → Int32} {X : CT} {k pc : Nat} {lv : List (Nat × Value)} {st vs : List Value} {lay : Lay} {h : Hp} (hk : k < 137) (he : exAt L xs k pc lv st lay h = some (.inr (.inr (true, vs)))) (hE : EndT X k vs lay h) : Ok X k pc lv st lay h := by
  obtain ⟨ins, np, a, b, c, v, w, tbl, lv2, hs, hd, hn, hj, hlf, hx⟩ := exAt_s hk he
  refine ok_sub hs ?_
  obtain ⟨p, l, e, R, s, m, args, below, meth, cc, D, ca, z, b0, l0, s0, Q⟩ := X
  cases ins with
  | ireturn =>
    have hn := hn.resolve_left (by simp [isSw])
    subst hn
    rw [Nat.add_sub_cancel_left] at hd
    simp only [ex] at hx
    unfold rI at hx
    split at hx
    · rename_i x
      simp only [Option.some.injEq, Sum.inr.injEq, Prod.mk.injEq] at hx
      obtain ⟨hx, rfl⟩ := hx
      intro H locs ls hl hP hS
      refine hE pc H locs ls (Or.inr (Or.inl ⟨x, rfl, ?_, hd⟩)) hP hS
      cases hb : Nat.beq (mRt k) 2 with
      | true =>
        rw [hb] at hx
        exact Or.inr ⟨Nat.eq_of_beq_eq_true hb, hx⟩
      | false =>
        rw [hb] at hx
        exact Or.inl (Nat.eq_of_beq_eq_true hx)
    · cases hx
  | areturn =>
    have hn := hn.resolve_left (by simp [isSw])
    subst hn
    rw [Nat.add_sub_cancel_left] at hd
    simp only [ex] at hx
    unfold rR at hx
    split at hx
    · rename_i q
      simp only [Option.some.injEq, Sum.inr.injEq, Prod.mk.injEq] at hx
      obtain ⟨hx, rfl⟩ := hx
      intro H locs ls hl hP hS
      exact hE pc H locs ls (Or.inr (Or.inr ⟨q, rfl, Nat.eq_of_beq_eq_true hx, hd⟩)) hP hS
    · cases hx
  | return_ =>
    have hn := hn.resolve_left (by simp [isSw])
    subst hn
    rw [Nat.add_sub_cancel_left] at hd
    simp only [ex] at hx
    unfold rV at hx
    split at hx
    · simp only [Option.some.injEq, Sum.inr.injEq, Prod.mk.injEq] at hx
      obtain ⟨hx, rfl⟩ := hx
      intro H locs ls hl hP hS
      exact hE pc H locs ls (Or.inl ⟨rfl, Nat.eq_of_beq_eq_true hx, hd⟩) hP hS
    · cases hx
  | invokestatic _ => exact absurd hx ((G_bif (G_pII Nr0 fun _ _ _ => Nr_nx) (G_bif (G_pII Nr0 fun _ _ _ => Nr_nx) (G_spS Nr0 fun _ _ => Nr_cal)) : Nr _) _)
  | invokespecial _ => exact absurd hx ((G_bif (G_pR Nr0 fun _ _ => Nr_nx) (G_spV Nr0 fun _ _ _ => G_ob Nr0 fun _ => Nr_cal) : Nr _) _)
  | invokevirtual _ => exact absurd hx ((G_spV Nr0 fun _ _ _ => G_ob Nr0 fun _ => Nr_cal : Nr _) _)
  | _ => exact absurd hx (Nc_ex _ rfl _)
theorem sound {L : Nat} {xs : Nat → Int32} : ∀ (n : Nat) {k pc : Nat} {lv : List (Nat × Value)} {st vs : List Value} {lay layE : Lay} {h hE : Hp}, big L xs n k pc lv st lay h = some (vs, layE, hE) → ∀ X, CxT X k → ScT X L xs k → RoT X lay layE → EndT X k vs layE hE → Ok X k pc lv st lay h
  | 0, _, _, _, _, _, _, _, _, _, e => by cases e
  | n + 1, k, pc, lv, st, vs, lay, layE, h, hE, e => by
    intro X hC hS hR hEn
    have hk : k < 137 := by
      obtain ⟨p, l, e, R, s, m, args, below, meth, cc, D, ca, z, b0, l0, s0, Q⟩ := X
      exact hC.1
    have hR' : ∀ lay2 : Lay, (lay.length ≤ lay2.length ∧ szl lay ≤ szl lay2) → (lay2.length ≤ layE.length ∧ szl lay2 ≤ szl layE) → RoT X lay lay2 ∧ RoT X lay2 layE := by
      intro lay2 g1 g2
      obtain ⟨p, l, e, R, s, m, args, below, meth, cc, D, ca, z, b0, l0, s0, Q⟩ := X
      obtain ⟨r1, r2, r3, r4⟩ := hR
      exact ⟨⟨r1, r2, Nat.le_trans g2.1 r3, Nat.le_trans g2.2 r4⟩, ⟨Nat.le_trans r1 g1.1, Nat.le_trans r2 g1.2, r3, r4⟩⟩
    simp only [big] at e
    split at e
    · rename_i he
      have h1 := exAt_mo _ _ _ _ _ _ he
      have h2 := big_mo n e
      have h3 := hR' _ h1 h2
      exact step_in hk hC he hS h3.1 (sound n e X hC hS h3.2 hEn)
    · rename_i he
      split at e
      · rename_i hb
        have h1 := big_mo n hb
        have h2 := big_mo n e
        have h3 := hR' _ h1 h2
        exact step_call hk hC hS he h1 h3.1 (fun X c1 c2 c3 c4 => sound n hb X c1 c2 c3 c4) (sound n e X hC hS h3.2 hEn)
      · cases e
    · rename_i he
      simp only [Option.some.injEq, Prod.mk.injEq] at e
      obtain ⟨rfl, rfl, rfl⟩ := e
      exact step_ret hk he hEn
    · cases e
