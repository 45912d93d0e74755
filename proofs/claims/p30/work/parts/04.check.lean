def nth {α : Type} : List α → Nat → Option α
  | [], _ => none
  | a :: _, 0 => some a
  | _ :: l, n + 1 => nth l n
/-! The small machine is the machine: pictures, and instruction by instruction. -/
def lenI : Instr → Nat
  | .bipush _ => 2
  | .sipush _ => 3
  | .ldc _ => 2
  | .ldc_w _ => 3
  | .ldc2_w _ => 3
  | .iload _ => 2
  | .lload _ => 2
  | .aload _ => 2
  | .istore _ => 2
  | .astore _ => 2
  | .iinc _ _ => 3
  | .ifCond _ _ => 3
  | .if_icmp _ _ => 3
  | .goto _ => 3
  | .getfield _ => 3
  | .putfield _ => 3
  | .new _ => 3
  | .newarray _ => 2
  | .invokestatic _ => 3
  | .invokevirtual _ => 3
  | .invokespecial _ => 3
  | _ => 1
def isSw : Instr → Bool
  | .tableswitch _ _ _ _ => true
  | .lookupswitch _ _ => true
  | _ => false
def wAt (i : Nat) (w : WC) : Bool := Nat.ble (i + 1) nWords && decide (wT i = w)
theorem wAt_in {i : Nat} {w : WC} (h : wAt i w = true) : dec w ∈ lw_tbl := by
  simp only [wAt, Bool.and_eq_true, decide_eq_true_eq] at h
  rw [← h.2]
  exact wT_in (Nat.le_of_ble_eq_true h.1)
def linkM (k c a i : Nat) (nest : Bool) : Bool := bif nest then wAt c (1, mCi k, i, a, 0, 0) else wAt c (0, mCi k, i, a, 0, 0)
def isRefTy : FieldType → Bool
  | .object _ => true
  | .array _ => true
  | _ => false
def okJ (k pc a b c : Nat) (v : Int32) (w : Int64) (tbl : List (Int32 × Nat)) : Instr → Bool
  | .iconst n => decide (Int32.ofInt n = v)
  | .bipush n => decide ((Int8.ofInt n).toInt32 = v)
  | .sipush n => decide ((Int16.ofInt n).toInt32 = v)
  | .ldc i => wAt c (10, mCi k, i, 0, 0, v.toInt)
  | .ldc_w i => wAt c (10, mCi k, i, 0, 0, v.toInt)
  | .lconst n => decide (Int64.ofNat (n : Nat) = w)
  | .ldc2_w i => wAt c (11, mCi k, i, 0, 0, w.toInt)
  | .iload_n n => decide ((n : Nat) = a)
  | .lload_n n => decide ((n : Nat) = a)
  | .aload_n n => decide ((n : Nat) = a)
  | .istore_n n => decide ((n : Nat) = a)
  | .astore_n n => decide ((n : Nat) = a)
  | .iload n => decide (n = a)
  | .lload n => decide (n = a)
  | .aload n => decide (n = a)
  | .istore n => decide (n = a)
  | .astore n => decide (n = a)
  | .iinc n i => decide (n = a ∧ Int32.ofInt i = v)
  | .ifCond _ o => decide ((pc : Int) + o = (a : Int))
  | .if_icmp _ o => decide ((pc : Int) + o = (a : Int))
  | .goto o => decide ((pc : Int) + o = (a : Int))
  | .tableswitch d lo hi offs => decide ((pc : Int) + d = (a : Int) ∧ -2147483648 ≤ lo ∧ hi ≤ 2147483647 ∧ (offs.size : Int) = hi - lo + 1) && decide (tbl.length = offs.size) && (List.range offs.size).all fun i => decide ((tbl[i]?).map Prod.fst = some (Int32.ofInt (lo + i)) ∧ (tbl[i]?).map (fun q => (q.2 : Int)) = (offs[i]?).map (fun o => (pc : Int) + o))
  | .lookupswitch d ps => decide ((pc : Int) + d = (a : Int)) && (ps.toList.zip (ps.toList.drop 1)).all (fun (a, next) => a.1 < next.1) && decide (tbl.map (fun q => (q.1.toInt, (q.2 : Int))) = ps.toList.map (fun q => (q.1, (pc : Int) + q.2)))
  | .getfield i => Nat.ble (a + 1) 9 && Nat.ble (b + 1) (vN a) && wAt c (2, mCi k, i, a, b, 0)
  | .putfield i => Nat.ble (a + 1) 9 && Nat.ble (b + 1) (vN a) && wAt c (2, mCi k, i, a, b, 0) && (!(vT a b).2.2.2 || (mIni k && Nat.beq a (mCi k))) && (match nth (mFl a) b with
    | some none => (decide (vTy a b = .int) && decide (v = 0)) || (decide (vTy a b = .boolean) && decide (v = 1))
    | some (some _) => isRefTy (vTy a b)
    | none => false)
  | .new i => Nat.ble (a + 1) 9 && wAt c (3, mCi k, i, a, 0, 0) && wAt b (4, a, 0, 0, 0, 0) && wAt (cIni a) (5, a, 0, 0, 0, 0)
  | .newarray t => match t with
    | .int => true
    | .boolean => true
    | _ => false
  | .invokestatic i => bif Nat.beq b 9 then wAt c (22, mCi k, i, 0, 0, 0) else bif Nat.beq b 8 then wAt c (14, mCi k, i, 0, 0, 0) else Nat.ble (a + 1) 137 && mSta a && (Nat.beq b 0 || Nat.beq b 1) && linkM k c a i (Nat.beq b 1)
  | .invokevirtual i => Nat.ble (a + 1) 137 && !mSta a && !mIni a && Nat.beq b 2 && linkM k c a i false
  | .invokespecial i => bif Nat.beq b 7 then wAt c (13, mCi k, i, 0, 0, 0) else Nat.ble (a + 1) 137 && !mSta a && mIni a && (Nat.beq b 5 || Nat.beq b 6) && linkM k c a i (Nat.beq b 6)
  | _ => true
def okI (k pc : Nat) (e : AI) : Bool := match e with
  | (p0, ins, np, _, a, b, c, v, w, tbl) => !(Nat.beq p0 pc) || (decide (decode (mC k) pc = .ok (ins, np - pc)) && decide (pc ≤ np) && (isSw ins || decide (np = pc + lenI ins)) && okJ k pc a b c v w tbl ins)
def okL (k : Nat) : Bool := (List.range (mLen k)).all fun pc => okI k pc (insT k pc)
def okM (k : Nat) : Bool :=
  Nat.beq k kLaw || (wAt (mIx k).1 (6, k, 0, 0, 0, 0) && wAt (mIx k).2.2.2 (5, mCi k, 0, 0, 0, 0) && (bif mSta k then wAt (mIx k).2.1 (8, k, 0, 0, 0, 0) else wAt (mIx k).2.1 (7, k, 0, 0, 0, 0) && Nat.ble (mCi k + 1) 9) && (mSta k || (bif mIni k then Nat.beq (mRt k) 0 else wAt (mIx k).2.2.1 (9, k, 0, 0, 0, 0))) && Nat.beq (mNar k) (dnT (mDi k)) && (match mRt k, mRet k with
    | 0, none => true
    | 1, some .int => true
    | 2, some .boolean => true
    | 3, some (.object _) => true
    | _, _ => false))
theorem okL_a : ((List.range 84).all okL) = true := by decide +kernel
theorem okM_a : ((List.range 137).all okM) = true := by decide +kernel
theorem cN_ok : ((List.range 12).all fun i => plainName (cN i) && decide (cN i ≠ "java/lang/invoke/MethodHandle" ∧ cN i ≠ "java/lang/invoke/VarHandle")) = true := by decide +kernel
theorem dsT_ok : ((List.range 30).all fun i => decide ((parseMethodDescriptor (dsT i)).map (fun d => d.parameters.length) = some (dnT i))) = true := by decide +kernel
theorem vT_own : ((List.range 9).all fun a => (List.range (vN a)).all fun b => decide ((vT a b).1 = cN a)) = true := by decide +kernel
theorem vT_nm : ∀ i, i < 9 → ∀ a, a < vN i → ∀ b, b < vN i → a ≠ b → (vT i a).2.1 ≠ (vT i b).2.1
  | 0, _ => nmX0 | 1, _ => nmX2 | 2, _ => nmX3 | 3, _ => nmX4 | 4, _ => nmX5 | 5, _ => nmX6 | 6, _ => nmX8 | 7, _ => nmX10 | 8, _ => nmX11
  | n + 9, h => absurd h (by omega)
theorem vT_ty : ∀ i, i < 9 → ∀ k, k < vN i → parseFieldDescriptor (vT i k).2.2.1 = some (vTy i k)
  | 0, _ => tyX0_ok | 1, _ => tyX2_ok | 2, _ => tyX3_ok | 3, _ => tyX4_ok | 4, _ => tyX5_ok | 5, _ => tyX6_ok | 6, _ => tyX8_ok | 7, _ => tyX10_ok | 8, _ => tyX11_ok
  | n + 9, h => absurd h (by omega)
theorem vw_at : ∀ i, i < 9 → vwCl[i]? = some (cN i, vT i, vN i)
  | 0, _ => rfl | 1, _ => rfl | 2, _ => rfl | 3, _ => rfl | 4, _ => rfl | 5, _ => rfl | 6, _ => rfl | 7, _ => rfl | 8, _ => rfl
  | n + 9, h => absurd h (by omega)
