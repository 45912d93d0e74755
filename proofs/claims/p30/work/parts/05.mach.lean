/-! A small machine over the class's own code: frames, a layout of places, numbers by place. -/
def lk : List (Nat × Value) → Nat → Option Value
  | [], _ => none
  | (j, v) :: r, i => bif Nat.beq j i then some v else lk r i
def insv : List (Nat × Value) → Nat → Value → List (Nat × Value)
  | [], i, v => [(i, v)]
  | (j, u) :: r, i, v => bif Nat.ble j i then (j, u) :: insv r i v else (i, v) :: (j, u) :: r
def flt : List (Nat × Value) → Nat → List (Nat × Value)
  | [], _ => []
  | q :: r, i => bif (!(q.1 == i) && !(q.1 + 1 == i && q.2.category == 2)) then q :: flt r i else flt r i
def sv (lv : List (Nat × Value)) (i : Nat) (v : Value) : List (Nat × Value) := insv (flt lv i) i v
def kp : Nat → List (Nat × Value) → List (Nat × Value)
  | _, [] => []
  | K, (j, u) :: r => bif Nat.ble K j then [] else (j, u) :: kp K r
def frc {α : Type} : List (Nat × Value) → (List (Nat × Value) → α) → α
  | [], f => f []
  | (j, u) :: r, f => frc r fun r' => f ((j, u) :: r')
def hset (h : Hp) (i k : Nat) (x : Int32) : Hp := fun a => if a = i then upd (h i) k x else h a
def hnew (h : Hp) (i : Nat) : Hp := fun a => if a = i then fun _ => 0 else h a
abbrev Rs : Type := (Bool × Nat × List (Nat × Value) × List Value × Lay × Hp) ⊕ ((Bool × Fr × Fr) ⊕ (Bool × List Value))
def pI (st : List Value) (f : Int32 → List Value → Option Rs) : Option Rs := match st with
  | .int x :: r => f x r
  | _ => none
def pII (st : List Value) (f : Int32 → Int32 → List Value → Option Rs) : Option Rs := match st with
  | .int y :: .int x :: r => f x y r
  | _ => none
def pLL (st : List Value) (f : Int64 → Int64 → List Value → Option Rs) : Option Rs := match st with
  | .long y :: .long x :: r => f x y r
  | _ => none
def pL (st : List Value) (f : Int64 → List Value → Option Rs) : Option Rs := match st with
  | .long x :: r => f x r
  | _ => none
def pR (st : List Value) (f : Nat → List Value → Option Rs) : Option Rs := match st with
  | .ref p :: r => f p r
  | _ => none
def pA (st : List Value) (f : Nat → Int32 → List Value → Option Rs) (g : Int32 → List Value → Option Rs) : Option Rs := match st with
  | .int i :: .ref p :: r => f p i r
  | .int i :: .retAddr _ :: r => g i r
  | _ => none
def pS (st : List Value) (f : Nat → Int32 → Int32 → List Value → Option Rs) : Option Rs := match st with
  | .int x :: .int i :: .ref p :: r => f p i x r
  | _ => none
def ob (lay : Lay) (p ci : Nat) (f : List (Option Value) → Option Rs) : Option Rs := match nth lay p with
  | some (.inl (c, fl)) => bif Nat.beq c ci then f fl else none
  | _ => none
def arr (lay : Lay) (p : Nat) (z : Bool) (f : Nat → Option Rs) : Option Rs := match nth lay p with
  | some (.inr (z', n)) => bif (bif z then z' else !z') then f n else none
  | _ => none
def ibB (i : Int32) (n : Nat) : Bool := !(decide (i < 0)) && Nat.ble (i.toNatClampNeg + 1) n
def isZ (x : Int32) : Bool := decide (x = 0) || decide (x = 1)
def swt (x : Int32) : List (Int32 × Nat) → Nat → Nat
  | [], d => d
  | (k, t) :: r, d => if x = k then t else swt x r d
def spl : Nat → List Value → List Value → Option (List Value × List Value)
  | 0, acc, st => some (acc, st)
  | n + 1, acc, v :: st => spl n (v :: acc) st
  | _ + 1, _, [] => none
def scat : List Value → Nat
  | [] => 0
  | v :: r => v.category + scat r
def nx (g : Bool) (pc : Nat) (lv : List (Nat × Value)) (st : List Value) (lay : Lay) (h : Hp) : Option Rs := some (.inl (g, pc, lv, st, lay, h))
def cal (k np a : Nat) (lv : List (Nat × Value)) (args rest : List Value) : Option Rs :=
  frc (lv_args 0 args) fun lv0 => some (.inr (.inl (Nat.ble (lg_sl args).length (mMax a) && Nat.ble (mFr a + 1) (mFr k) && Nat.ble (8 + (mMax a + 11) + mLo a) (mLo k) && Nat.ble (scat rest) 8 && !(Nat.beq a kLaw) && (!(sc a) || sc k), (a, 0, lv0, []), (k, np, lv, rest))))
def icd (c : Jvm.ClassFile.Cond) (x y : Int32) (t f : Nat) : Nat := match c with
  | .eq => if x = y then t else f
  | .ne => if x = y then f else t
  | .lt => if x < y then t else f
  | .ge => if x < y then f else t
  | .gt => if y < x then t else f
  | .le => if y < x then f else t
def lI (o : Option Value) (f : Int32 → Option Rs) : Option Rs := match o with
  | some (.int x) => f x
  | _ => none
def lJ (o : Option Value) (f : Int64 → Option Rs) : Option Rs := match o with
  | some (.long x) => f x
  | _ => none
def lR (o : Option Value) (f : Nat → Option Rs) (g : Nat → Option Rs) : Option Rs := match o with
  | some (.ref x) => f x
  | some (.retAddr x) => g x
  | _ => none
def p1 (st : List Value) (f : Value → List Value → Option Rs) : Option Rs := match st with
  | x :: r => f x r
  | _ => none
def p2 (st : List Value) (f : Value → Value → List Value → Option Rs) : Option Rs := match st with
  | x :: y :: r => f x y r
  | _ => none
def gf (o : Option (Option Value)) (d : Value) (f : Value → Option Rs) : Option Rs := match o with
  | some none => f d
  | some (some u) => f u
  | none => none
def isN (o : Option (Option Value)) (R : Option Rs) : Option Rs := match o with
  | some none => R
  | _ => none
def isS (o : Option (Option Value)) (R : Option Rs) : Option Rs := match o with
  | some (some _) => R
  | _ => none
def pP (st : List Value) (f : Int32 → Nat → List Value → Option Rs) (g : Nat → Nat → List Value → Option Rs) : Option Rs := match st with
  | .int y :: .ref p :: r => f y p r
  | .ref q :: .ref p :: r => g q p r
  | _ => none
def pT (st : List Value) (f : List Value → Option Rs) : Option Rs := match st with
  | .retAddr _ :: r => f r
  | _ => none
def spS (o : Option (List Value × List Value)) (f : List Value → List Value → Option Rs) : Option Rs := match o with
  | some (args, r) => f args r
  | none => none
def spV (o : Option (List Value × List Value)) (f : List Value → Nat → List Value → Option Rs) : Option Rs := match o with
  | some (args, .ref p :: r) => f args p r
  | _ => none
def rI (st : List Value) (f : Int32 → Option Rs) : Option Rs := match st with
  | [.int x] => f x
  | _ => none
def rR (st : List Value) (f : Nat → Option Rs) : Option Rs := match st with
  | [.ref x] => f x
  | _ => none
def rV (st : List Value) (R : Option Rs) : Option Rs := match st with
  | [] => R
  | _ => none
def tZ (t : ArrayType) : Bool := match t with
  | .boolean => true
  | _ => false
def ex (L : Nat) (xs : Nat → Int32) (k pc : Nat) (lv : List (Nat × Value)) (st : List Value) (lay : Lay) (h : Hp) (np a b : Nat) (v : Int32) (w : Int64) (tbl : List (Int32 × Nat)) (ins : Instr) : Option Rs :=
  match ins with
  | .iconst _ => nx true np lv (.int v :: st) lay h
  | .bipush _ => nx true np lv (.int v :: st) lay h
  | .sipush _ => nx true np lv (.int v :: st) lay h
  | .ldc _ => nx true np lv (.int v :: st) lay h
  | .ldc_w _ => nx true np lv (.int v :: st) lay h
  | .lconst _ => nx true np lv (.long w :: st) lay h
  | .ldc2_w _ => nx true np lv (.long w :: st) lay h
  | .iload_n _ => lI (lk lv a) fun x => nx true np lv (.int x :: st) lay h
  | .iload _ => lI (lk lv a) fun x => nx true np lv (.int x :: st) lay h
  | .lload_n _ => lJ (lk lv a) fun x => nx true np lv (.long x :: st) lay h
  | .lload _ => lJ (lk lv a) fun x => nx true np lv (.long x :: st) lay h
  | .aload_n _ => lR (lk lv a) (fun x => nx true np lv (.ref x :: st) lay h) (fun x => nx true np lv (.retAddr x :: st) lay h)
  | .aload _ => lR (lk lv a) (fun x => nx true np lv (.ref x :: st) lay h) (fun x => nx true np lv (.retAddr x :: st) lay h)
  | .istore_n _ => pI st fun x r => frc (sv lv a (.int x)) fun lv => nx (Nat.ble (a + 1) (mMax k)) np lv r lay h
  | .istore _ => pI st fun x r => frc (sv lv a (.int x)) fun lv => nx (Nat.ble (a + 1) (mMax k)) np lv r lay h
  | .astore_n _ => pR st fun x r => frc (sv lv a (.ref x)) fun lv => nx (Nat.ble (a + 1) (mMax k)) np lv r lay h
  | .astore _ => pR st fun x r => frc (sv lv a (.ref x)) fun lv => nx (Nat.ble (a + 1) (mMax k)) np lv r lay h
  | .iinc _ _ => lI (lk lv a) fun x => frc (sv lv a (.int (x + v))) fun lv => nx (Nat.ble (a + 1) (mMax k)) np lv st lay h
  | .iadd => pII st fun x y r => nx true np lv (.int (x + y) :: r) lay h
  | .isub => pII st fun x y r => nx true np lv (.int (x - y) :: r) lay h
  | .imul => pII st fun x y r => nx true np lv (.int (x * y) :: r) lay h
  | .iand => pII st fun x y r => nx true np lv (.int (x &&& y) :: r) lay h
  | .ior => pII st fun x y r => nx true np lv (.int (x ||| y) :: r) lay h
  | .ixor => pII st fun x y r => nx true np lv (.int (x ^^^ y) :: r) lay h
  | .ishl => pII st fun x y r => nx true np lv (.int (x <<< (y &&& 31)) :: r) lay h
  | .ishr => pII st fun x y r => nx true np lv (.int (x >>> (y &&& 31)) :: r) lay h
  | .idiv => pII st fun x y r => nx (!(decide (y = 0))) np lv (.int (x / y) :: r) lay h
  | .irem => pII st fun x y r => nx (!(decide (y = 0))) np lv (.int (x - x / y * y) :: r) lay h
  | .ladd => pLL st fun x y r => nx true np lv (.long (x + y) :: r) lay h
  | .lmul => pLL st fun x y r => nx true np lv (.long (x * y) :: r) lay h
  | .land => pLL st fun x y r => nx true np lv (.long (x &&& y) :: r) lay h
  | .lrem => pLL st fun x y r => nx (!(decide (y = 0))) np lv (.long (x - x / y * y) :: r) lay h
  | .lcmp => pLL st fun x y r => nx true np lv (.int (lg_cmp x y) :: r) lay h
  | .i2l => pI st fun x r => nx true np lv (.long x.toInt64 :: r) lay h
  | .l2i => pL st fun x r => nx true np lv (.int x.toInt32 :: r) lay h
  | .dup => p1 st fun x r => nx (Nat.beq x.category 1) np lv (x :: x :: r) lay h
  | .dup2 => p2 st fun x y r => nx (Nat.beq x.category 1 && Nat.beq y.category 1) np lv (x :: y :: x :: y :: r) lay h
  | .pop => p1 st fun x r => nx (Nat.beq x.category 1) np lv r lay h
  | .ifCond c _ => pI st fun x r => nx true (icd c x 0 a np) lv r lay h
  | .if_icmp c _ => pII st fun x y r => nx true (icd c x y a np) lv r lay h
  | .goto _ => nx true a lv st lay h
  | .tableswitch _ _ _ _ => pI st fun x r => nx true (swt x tbl a) lv r lay h
  | .lookupswitch _ _ => pI st fun x r => nx true (swt x tbl a) lv r lay h
  | .getfield _ => pR st fun p r => ob lay p a fun fl => gf (nth fl b) (.int (h p b)) fun u => nx true np lv (u :: r) lay h
  | .putfield _ => pP st (fun y p r => ob lay p a fun fl => isN (nth fl b) (isN (nth (mFl a) b) (nx (bif decide (v = 0) then true else isZ y) np lv r lay (hset h p b y)))) (fun q p r => ob lay p a fun fl => isS (nth fl b) (isS (nth (mFl a) b) (nx true np lv r (lay.set p (.inl (a, fl.set b (some (.ref q))))) h)))
  | .iaload => pA st (fun p i r => arr lay p false fun n => nx (ibB i n) np lv (.int (h p i.toNatClampNeg) :: r) lay h) (fun i r => nx (ibB i L && sc k) np lv (.int (xs i.toNatClampNeg) :: r) lay h)
  | .baload => pA st (fun p i r => arr lay p true fun n => nx (ibB i n) np lv (.int (h p i.toNatClampNeg) :: r) lay h) (fun _ _ => none)
  | .iastore => pS st fun p i x r => arr lay p false fun n => nx (ibB i n) np lv r lay (hset h p i.toNatClampNeg x)
  | .bastore => pS st fun p i x r => arr lay p true fun n => nx (ibB i n) np lv r lay (hset h p i.toNatClampNeg (vp_nar .boolean x))
  | .arraylength => pT st fun r => nx (sc k) np lv (.int (Int32.ofNat L) :: r) lay h
  | .new _ => nx true np lv (.ref lay.length :: st) (lay ++ [.inl (a, mFl a)]) (hnew h lay.length)
  | .newarray t => pI st fun n r => nx (!(decide (n < 0)) && Nat.ble n.toNatClampNeg 65536) np lv (.ref lay.length :: r) (lay ++ [.inr (tZ t, n.toNatClampNeg)]) (hnew h lay.length)
  | .invokestatic _ => bif Nat.beq b 9 then (pII st fun x y r => nx (Nat.ble (scat r) 8) np lv (.int (if x < y then y else x) :: r) lay h) else bif Nat.beq b 8 then (pII st fun x y r => nx (Nat.ble (scat r) 8) np lv (.int (if y < x then y else x) :: r) lay h) else spS (spl (mNar a) [] st) fun args r => cal k np a lv args r
  | .invokevirtual _ => spV (spl (mNar a) [] st) fun args p r => ob lay p (mCi a) fun _ => cal k np a lv (.ref p :: args) r
  | .invokespecial _ => bif Nat.beq b 7 then (pR st fun _ r => nx (Nat.ble (scat r) 8) np lv r lay h) else spV (spl (mNar a) [] st) fun args p r => ob lay p (mCi a) fun _ => cal k np a lv (.ref p :: args) r
  | .ireturn => rI st fun x => some (.inr (.inr (bif Nat.beq (mRt k) 2 then isZ x else Nat.beq (mRt k) 1, [.int x])))
  | .areturn => rR st fun p => some (.inr (.inr (Nat.beq (mRt k) 3, [.ref p])))
  | .return_ => rV st (some (.inr (.inr (Nat.beq (mRt k) 0, []))))
  | _ => none
def fin (fs : List Fr) (lay : Lay) (h : Hp) (g : Bool) : Option Rs → Option St
  | none => none
  | some (.inl (q, pc, lv, st, lay', h')) => match fs with
    | [] => none
    | (k, _, _, _) :: fs' => some ((k, pc, lv, st) :: fs', lay', h', g && q)
  | some (.inr (.inl (q, f1, f2))) => match fs with
    | [] => none
    | _ :: fs' => some (f1 :: f2 :: fs', lay, h, g && q)
  | some (.inr (.inr (q, vs))) => match fs with
    | _ :: (k, pc, lv, st) :: fs' => some ((k, pc, lv, vs ++ st) :: fs', lay, h, g && q)
    | _ => none
def exAt (L : Nat) (xs : Nat → Int32) (k pc : Nat) (lv : List (Nat × Value)) (st : List Value) (lay : Lay) (h : Hp) : Option Rs :=
  bif Nat.ble (mLen k) pc then none else match insT k pc with
  | (p0, ins, np, K, a, b, _, v, w, tbl) => bif Nat.beq p0 pc then (bif Nat.beq K 99 then ex L xs k pc lv st lay h np a b v w tbl ins else frc (kp K lv) fun lv => ex L xs k pc lv st lay h np a b v w tbl ins) else none
def stp (L : Nat) (xs : Nat → Int32) (S : St) : Option St := match S with
  | ([], _, _, _) => none
  | ((k, pc, lv, st) :: fs, lay, h, g) => fin ((k, pc, lv, st) :: fs) lay h g (exAt L xs k pc lv st lay h)
def run (L : Nat) (xs : Nat → Int32) : Nat → St → Option St
  | 0, S => some S
  | n + 1, S => match stp L xs S with
    | none => none
    | some S' => run L xs n S'
