/-! A READER OF THE BYTECODE over a plain heap: hN cells, hW slots, each cell's length, its ints, longs, references (by places) -/
abbrev AH : Type := Nat × Nat × (Nat → Nat) × (Nat → Nat → Int32) × (Nat → Nat → Int64) × (Nat → Nat → Option Nat) × (Nat × (Nat → Int32))
def hN (h : AH) : Nat := h.1
def hW (h : AH) : Nat := h.2.1
def hLn (h : AH) (a : Nat) : Nat := h.2.2.1 a
def hI (h : AH) (a i : Nat) : Int32 := h.2.2.2.1 a i
def hL (h : AH) (a i : Nat) : Int64 := h.2.2.2.2.1 a i
def hR (h : AH) (a i : Nat) : Option Nat := h.2.2.2.2.2.1 a i
/-- the script, which nobody writes -/
def hS (h : AH) : Nat × (Nat → Int32) := h.2.2.2.2.2.2
def u2 {α : Type} (f : Nat → Nat → α) (a i : Nat) (v : α) : Nat → Nat → α := fun b j => if b = a ∧ j = i then v else f b j
def z2 {α : Type} (f : Nat → Nat → α) (a : Nat) (v : α) : Nat → Nat → α := fun b j => if b = a then v else f b j
def sI (h : AH) (a i : Nat) (v : Int32) : AH := (h.1, h.2.1, h.2.2.1, u2 h.2.2.2.1 a i v, h.2.2.2.2.1, h.2.2.2.2.2)
def sL (h : AH) (a i : Nat) (v : Int64) : AH := (h.1, h.2.1, h.2.2.1, h.2.2.2.1, u2 h.2.2.2.2.1 a i v, h.2.2.2.2.2)
def sR (h : AH) (a i : Nat) (v : Option Nat) : AH := (h.1, h.2.1, h.2.2.1, h.2.2.2.1, h.2.2.2.2.1, u2 h.2.2.2.2.2.1 a i v, h.2.2.2.2.2.2)
def sA (h : AH) (a : Nat) (f : Nat → Int32) : AH := (h.1, h.2.1, h.2.2.1, (fun b j => if b = a then f j else h.2.2.2.1 b j), h.2.2.2.2.1, h.2.2.2.2.2)
def alc (h : AH) (ln sl : Nat) : AH := (h.1 + 1, h.2.1 + sl, (fun b => if b = h.1 then ln else h.2.2.1 b), z2 h.2.2.2.1 h.1 0, z2 h.2.2.2.2.1 h.1 0, z2 h.2.2.2.2.2.1 h.1 none, h.2.2.2.2.2.2)
def uu : Value := .retAddr 0
def rv (r : Option Nat) : Value := match r with
  | none => .null
  | some q => .ref q
/-- the kind of the k-th cell that is made: 0 .. 9 an object, 10 int, 11 byte, 12 boolean, 13 long, 14 references -/
def layL : List Nat := [8, 11, 5, 10, 13, 1, 0, 10, 10, 10, 10, 10, 10, 10, 10, 10, 10, 10, 10, 7, 10, 4, 10, 10, 3, 11, 2, 14, 6, 10, 10, 10, 10, 10, 6, 10, 10, 10, 10, 10, 6, 10, 10, 10, 10, 10, 6, 10, 10, 10, 10, 10, 6, 10, 10, 10, 10, 10, 6, 10, 10, 10, 10, 10, 6, 10, 10, 10, 10, 10, 6, 10, 10, 10, 10, 10, 6, 10, 10, 10, 10, 10, 6, 10, 10, 10, 10, 10, 6, 10, 10, 10, 10, 10, 6, 10, 10, 10, 10, 10, 6, 10, 10, 10, 10, 10, 6, 10, 10, 10, 10, 10, 6, 10, 10, 10, 10, 10, 6, 10, 10, 10, 10, 10, 6, 10, 10, 10, 10, 10, 6, 10, 10, 10, 10, 10, 6, 10, 10, 10, 10, 10, 6, 10, 10, 10, 10, 10, 6, 10, 10, 10, 10, 10, 6, 10, 10, 10, 10, 10, 10, 0, 10, 10, 10, 10, 10, 10, 10, 10, 10, 10, 10, 10, 9, 10, 10, 10, 10, 10, 10, 10, 10, 10, 10, 10, 10, 10, 10, 10, 10, 10, 10, 10, 10, 10, 10, 10, 13, 13, 10, 10, 12, 10, 10, 10, 10, 10, 10, 10, 10, 10, 10, 10, 10, 10, 13, 10, 10, 10]
def lay (a : Nat) : Nat := layL.getD a 10
def fty (ci k : Nat) : Nat := (ftyL.getD ci []).getD k 9
def ffn (ci k : Nat) : Bool := (ffnL.getD ci []).getD k true
def nfl (ci : Nat) : Nat := (ftyL.getD ci []).length
def fv (h : AH) (a ci k : Nat) : Value := match fty ci k with
  | 2 => .long (hL h a k)
  | 3 => rv (hR h a k)
  | _ => .int (hI h a k)
abbrev NX : Type := (Nat × List Value × List Value × AH) ⊕ ((Nat × List Value × List Value) ⊕ (Option Value))
def nx (pc : Nat) (ls st : List Value) (h : AH) : Option NX := some (.inl (pc, ls, st, h))
def ck (c : Prop) [Decidable c] (z : Option NX) : Option NX := if c then z else none
def br (c : Prop) [Decidable c] (a b : Option NX) : Option NX := if c then a else b
def pI (st : List Value) (k : Int32 → List Value → Option NX) : Option NX := match st with
  | .int x :: r => k x r
  | _ => none
def pII (st : List Value) (k : Int32 → Int32 → List Value → Option NX) : Option NX := match st with
  | .int y :: .int x :: r => k x y r
  | _ => none
def pJ (st : List Value) (k : Int64 → List Value → Option NX) : Option NX := match st with
  | .long x :: r => k x r
  | _ => none
def pJJ (st : List Value) (k : Int64 → Int64 → List Value → Option NX) : Option NX := match st with
  | .long y :: .long x :: r => k x y r
  | _ => none
def pJI (st : List Value) (k : Int64 → Int32 → List Value → Option NX) : Option NX := match st with
  | .int y :: .long x :: r => k x y r
  | _ => none
def pR (st : List Value) (k : Nat → List Value → Option NX) : Option NX := match st with
  | .ref a :: r => k a r
  | _ => none
def pRI (st : List Value) (k : Nat → Int32 → List Value → Option NX) : Option NX := match st with
  | .int i :: .ref a :: r => k a i r
  | _ => none
def pRJ (st : List Value) (k : Nat → Int64 → List Value → Option NX) : Option NX := match st with
  | .long i :: .ref a :: r => k a i r
  | _ => none
def pRR (st : List Value) (k : Nat → Nat → List Value → Option NX) : Option NX := match st with
  | .ref v :: .ref a :: r => k a v r
  | _ => none
def pRN (st : List Value) (k : Nat → List Value → Option NX) : Option NX := match st with
  | .null :: .ref a :: r => k a r
  | _ => none
def pRII (st : List Value) (k : Nat → Int32 → Int32 → List Value → Option NX) : Option NX := match st with
  | .int x :: .int i :: .ref a :: r => k a i x r
  | _ => none
def pRIJ (st : List Value) (k : Nat → Int32 → Int64 → List Value → Option NX) : Option NX := match st with
  | .long x :: .int i :: .ref a :: r => k a i x r
  | _ => none
def pRIR (st : List Value) (k : Nat → Int32 → Nat → List Value → Option NX) : Option NX := match st with
  | .ref v :: .int i :: .ref a :: r => k a i v r
  | _ => none
def pCopy (st : List Value) (k : Nat → Int32 → Nat → Int32 → Int32 → List Value → Option NX) : Option NX := match st with
  | .int n :: .int dp :: .ref a :: .int sp :: .ref a0 :: r => k a0 sp a dp n r
  | _ => none
def is1 (v : Value) : Bool := match v with
  | .int _ => true
  | .ref _ => true
  | .null => true
  | _ => false
def p1 (st : List Value) (k : Value → List Value → Option NX) : Option NX := match st with
  | v :: r => if is1 v then k v r else none
  | _ => none
def p11 (st : List Value) (k : Value → Value → List Value → Option NX) : Option NX := match st with
  | v :: w :: r => if is1 v && is1 w then k v w r else none
  | _ => none
def ldI (ls : List Value) (i : Nat) (k : Int32 → Option NX) : Option NX := match ls[i]? with
  | some (.int x) => k x
  | _ => none
def ldJ (ls : List Value) (i : Nat) (k : Int64 → Option NX) : Option NX := match ls[i]? with
  | some (.long x) => k x
  | _ => none
def ldR (ls : List Value) (i : Nat) (k : Nat → Option NX) : Option NX := match ls[i]? with
  | some (.ref x) => k x
  | _ => none
def kl (ls : List Value) (i : Nat) : List Value := match i with
  | 0 => ls
  | j + 1 => match ls[j]? with
    | some (.long _) => ls.set j uu
    | some (.double _) => ls.set j uu
    | _ => ls
def st1 (ls : List Value) (i : Nat) (v : Value) : List Value := (kl ls i).set i v
def st2 (ls : List Value) (i : Nat) (v : Value) : List Value := ((kl ls i).set i v).set (i + 1) uu
def jm (pc : Nat) (off : Int) (k : Nat → Option NX) : Option NX := if 0 ≤ (pc : Int) + off then k ((pc : Int) + off).toNat else none
def popN : Nat → List Value → List Value → Option (List Value × List Value)
  | 0, acc, st => some (acc, st)
  | n + 1, acc, v :: st => popN n (v :: acc) st
  | _ + 1, _, [] => none
def pA (n : Nat) (st : List Value) (k : List Value → List Value → Option NX) : Option NX := match popN n [] st with
  | some (a, r) => k a r
  | none => none
def rtn (v : Option Value) : Option NX := some (.inr (.inr v))
/-- a live cell of a kind; an index within -/
abbrev arr (h : AH) (a k : Nat) : Prop := a < hN h ∧ lay a = k
abbrev inb (i : Int32) (n : Nat) : Prop := 0 ≤ i.toInt ∧ i.toInt < (n : Int)
def oiOf (mi : Nat) : Nat := mOi.getD mi 99
def naOf (mi : Nat) : Nat := mNa.getD mi 99
def rkOf (mi : Nat) : Nat := mRk.getD mi 99
def stOf (mi : Nat) : Bool := mSt.getD mi false
def mlOf (mi : Nat) : Nat := mMl.getD mi 0
def flt (as : List Value) : List Value := as.flatMap fun v => match v with
  | .long x => [.long x, uu]
  | .double x => [.double x, uu]
  | v => [v]
def cll (mi : Nat) (as r : List Value) : Option NX := if (flt as).length ≤ mlOf mi then some (.inr (.inl (mi, as, r))) else none
def ins (mi pc : Nat) : Option (Instr × Nat) := (tbs.getD mi []).lookup pc
def isIni (mi : Nat) : Bool := (mYs.getD mi yL_law).name == "<init>"
def fldT (oi idx : Nat) : Option (Nat × Nat × Nat) := (fTs.getD oi []).lookup idx
def mthT (oi idx : Nat) : Option (Nat × Nat × Nat) := (mTs.getD oi []).lookup idx
def cstT (oi idx : Nat) : Option (Int32 × Nat) := (cTs.getD oi []).lookup idx
def lngT (oi idx : Nat) : Option (Int64 × Nat) := (lTs.getD oi []).lookup idx
def clsT (oi idx : Nat) : Option (Nat × Nat) := (kTs.getD oi []).lookup idx
def pIe (st : List Value) (k : Int32 → Option NX) : Option NX := match st with
  | [.int x] => k x
  | _ => none
def pJe (st : List Value) (k : Int64 → Option NX) : Option NX := match st with
  | [.long x] => k x
  | _ => none
def pRe (st : List Value) (k : Nat → Option NX) : Option NX := match st with
  | [.ref x] => k x
  | _ => none
def pE (st : List Value) (z : Option NX) : Option NX := match st with
  | [] => z
  | _ => none
def gsT (oi idx : Nat) : Option (Nat × Nat) := (gTs.getD oi []).lookup idx
def sfT (oi idx : Nat) : Option (Nat × Nat) := (sTs.getD oi []).lookup idx
def strP (oi idx : Nat) : Bool := oi == 5 && idx == 25
def ownB (i : Nat) : Int32 := ownBs.getD i 0
def getS (mi idx pc : Nat) (ls st : List Value) (h : AH) : Option NX := match gsT (oiOf mi) idx with
  | some (kd, _) => (match kd with
    | 0 => nx (pc + 3) ls (.ref 1000000 :: st) h
    | 1 => nx (pc + 3) ls (.int 1 :: st) h
    | 2 => nx (pc + 3) ls (.float 0 :: st) h
    | _ => none)
  | none => none
def getF (mi idx pc : Nat) (ls st : List Value) (h : AH) : Option NX := match fldT (oiOf mi) idx with
  | some (ci, k, _) => pR st fun a r => ck (arr h a ci) (nx (pc + 3) ls (fv h a ci k :: r) h)
  | none => (match sfT (oiOf mi) idx with
    | some (kd, _) => (match kd with
      | 0 => pR st fun a r => ck (a = 1000001) (nx (pc + 3) ls (.ref 1000002 :: r) h)
      | 1 => pR st fun a r => ck (a = 1000001) (nx (pc + 3) ls (.int 0 :: r) h)
      | _ => none)
    | none => none)
def putF (mi idx pc : Nat) (ls st : List Value) (h : AH) : Option NX := match fldT (oiOf mi) idx with
  | some (ci, k, _) => bif (!ffn ci k || (isIni mi && oiOf mi == ci)) then (match fty ci k with
    | 0 => pRI st fun a x r => ck (arr h a ci) (nx (pc + 3) ls r (sI h a k x))
    | 1 => pRI st fun a x r => ck (arr h a ci ∧ (x = 0 ∨ x = 1)) (nx (pc + 3) ls r (sI h a k x))
    | 2 => pRJ st fun a x r => ck (arr h a ci) (nx (pc + 3) ls r (sL h a k x))
    | 3 => pRR st fun a x r => ck (arr h a ci) (nx (pc + 3) ls r (sR h a k (some x)))
    | _ => none) else none
  | none => none
def invV (mi idx : Nat) (st : List Value) (h : AH) : Option NX := match mthT (oiOf mi) idx with
  | some (kd, m, _) => (match kd with
    | 0 => bif Nat.blt (oiOf m) 10 then pA (naOf m) st fun as r => pR r fun a r => ck (r.length ≤ 4 ∧ arr h a (oiOf m)) (cll m (.ref a :: as) r) else pA (naOf m) st fun as r => pR r fun a r => ck (r.length ≤ 4 ∧ a = 1000001 ∧ oiOf m = 13) (cll m (.ref a :: as) r)
    | _ => none)
  | none => none
def invS (mi idx pc : Nat) (ls st : List Value) (h : AH) : Option NX := match mthT (oiOf mi) idx with
  | some (kd, m, _) => (match kd with
    | 1 => pA (naOf m) st fun as r => ck (r.length ≤ 4) (cll m as r)
    | 3 => pA (naOf m) st fun as r => ck (r.length ≤ 4) (cll m as r)
    | 6 => pCopy st fun a0 sp a dp n r => ck (r.length ≤ 4 ∧ arr h a0 10 ∧ arr h a 10 ∧ (0 ≤ sp.toInt ∧ 0 ≤ dp.toInt ∧ 0 ≤ n.toInt) ∧ sp.toInt + n.toInt ≤ hLn h a0 ∧ dp.toInt + n.toInt ≤ hLn h a) (nx (pc + 3) ls r (sA h a (va_cpy (hI h a0) (hI h a) sp.toNatClampNeg dp.toNatClampNeg n.toNatClampNeg)))
    | _ => none)
  | none => none
def invI (mi idx pc : Nat) (ls st : List Value) (h : AH) : Option NX := match mthT (oiOf mi) idx with
  | some (kd, m, _) => (match kd with
    | 2 => pA (naOf m) st fun as r => pR r fun a r => ck (r.length ≤ 4 ∧ arr h a (oiOf m)) (cll m (.ref a :: as) r)
    | 4 => pA (naOf m) st fun as r => pR r fun a r => ck (r.length ≤ 4 ∧ arr h a (oiOf m)) (cll m (.ref a :: as) r)
    | 5 => pR st fun _ r => ck (r.length ≤ 4) (nx (pc + 3) ls r h)
    | _ => none)
  | none => none
def atK (t : ArrayType) : Nat := match t with
  | .int => 10
  | .byte => 11
  | .boolean => 12
  | .long => 13
  | _ => 99
def tsw (pc : Nat) (x : Int32) (d : Int) (k : Nat → Option NX) : Int → List Int → Option NX
  | _, [] => jm pc d k
  | lo, o :: os => br (x.toInt = lo) (jm pc o k) (tsw pc x d k (lo + 1) os)
def lsw (pc : Nat) (x : Int32) (d : Int) (k : Nat → Option NX) : List (Int × Int) → Option NX
  | [] => jm pc d k
  | o :: os => br (x.toInt = o.1) (jm pc o.2 k) (lsw pc x d k os)
def ccI (c : ClassFile.Cond) (x y : Int32) (a b : Option NX) : Option NX := match c with
  | .eq => br (x = y) a b
  | .ne => br (¬ x = y) a b
  | .lt => br (x < y) a b
  | .ge => br (y ≤ x) a b
  | .gt => br (y < x) a b
  | .le => br (x ≤ y) a b
def step (mi : Nat) (i : Instr) (pc : Nat) (ls st : List Value) (h : AH) : Option NX := match i with
  | .aload_n k => ldR ls k fun a => nx (pc + 1) ls (.ref a :: st) h
  | .iload k => ldI ls k fun x => nx (pc + 2) ls (.int x :: st) h
  | .iload_n k => ldI ls k fun x => nx (pc + 1) ls (.int x :: st) h
  | .lload k => ldJ ls k fun x => nx (pc + 2) ls (.long x :: st) h
  | .lload_n k => ldJ ls k fun x => nx (pc + 1) ls (.long x :: st) h
  | .astore_n k => pR st fun a r => ck ((k : Nat) < ls.length) (nx (pc + 1) (st1 ls k (.ref a)) r h)
  | .istore k => pI st fun x r => ck (k < ls.length) (nx (pc + 2) (st1 ls k (.int x)) r h)
  | .istore_n k => pI st fun x r => ck ((k : Nat) < ls.length) (nx (pc + 1) (st1 ls k (.int x)) r h)
  | .lstore k => pJ st fun x r => ck (k + 1 < ls.length) (nx (pc + 2) (st2 ls k (.long x)) r h)
  | .lstore_n k => pJ st fun x r => ck ((k : Nat) + 1 < ls.length) (nx (pc + 1) (st2 ls k (.long x)) r h)
  | .iinc k n => ldI ls k fun x => nx (pc + 3) (st1 ls k (.int (x + Int32.ofInt n))) st h
  | .iconst n => nx (pc + 1) ls (.int (Int32.ofInt n) :: st) h
  | .bipush n => nx (pc + 2) ls (.int (Int8.ofInt n).toInt32 :: st) h
  | .sipush n => nx (pc + 3) ls (.int (Int16.ofInt n).toInt32 :: st) h
  | .lconst n => nx (pc + 1) ls (.long (Int64.ofNat (n : Nat)) :: st) h
  | .ldc idx => (match cstT (oiOf mi) idx with
    | some (v, _) => nx (pc + 2) ls (.int v :: st) h
    | none => bif strP (oiOf mi) idx then nx (pc + 2) ls (.ref 1000001 :: st) h else none)
  | .ldc_w idx => (match cstT (oiOf mi) idx with
    | some (v, _) => nx (pc + 3) ls (.int v :: st) h
    | none => none)
  | .ldc2_w idx => (match lngT (oiOf mi) idx with
    | some (v, _) => nx (pc + 3) ls (.long v :: st) h
    | none => none)
  | .iadd => pII st fun x y r => nx (pc + 1) ls (.int (x + y) :: r) h
  | .isub => pII st fun x y r => nx (pc + 1) ls (.int (x - y) :: r) h
  | .imul => pII st fun x y r => nx (pc + 1) ls (.int (x * y) :: r) h
  | .idiv => pII st fun x y r => ck (¬ y = 0) (nx (pc + 1) ls (.int (x / y) :: r) h)
  | .irem => pII st fun x y r => ck (¬ y = 0) (nx (pc + 1) ls (.int (x - x / y * y) :: r) h)
  | .ineg => pI st fun x r => nx (pc + 1) ls (.int (-x) :: r) h
  | .iand => pII st fun x y r => nx (pc + 1) ls (.int (x &&& y) :: r) h
  | .ior => pII st fun x y r => nx (pc + 1) ls (.int (x ||| y) :: r) h
  | .ixor => pII st fun x y r => nx (pc + 1) ls (.int (x ^^^ y) :: r) h
  | .ishl => pII st fun x y r => nx (pc + 1) ls (.int (x <<< (y &&& 31)) :: r) h
  | .ishr => pII st fun x y r => nx (pc + 1) ls (.int (x >>> (y &&& 31)) :: r) h
  | .iushr => pII st fun x y r => nx (pc + 1) ls (.int (x.toUInt32 >>> (y.toUInt32 &&& Int32.toUInt32 31)).toInt32 :: r) h
  | .ladd => pJJ st fun x y r => nx (pc + 1) ls (.long (x + y) :: r) h
  | .lsub => pJJ st fun x y r => nx (pc + 1) ls (.long (x - y) :: r) h
  | .lmul => pJJ st fun x y r => nx (pc + 1) ls (.long (x * y) :: r) h
  | .ldiv => pJJ st fun x y r => ck (¬ y = 0) (nx (pc + 1) ls (.long (x / y) :: r) h)
  | .lrem => pJJ st fun x y r => ck (¬ y = 0) (nx (pc + 1) ls (.long (x - x / y * y) :: r) h)
  | .land => pJJ st fun x y r => nx (pc + 1) ls (.long (x &&& y) :: r) h
  | .lor => pJJ st fun x y r => nx (pc + 1) ls (.long (x ||| y) :: r) h
  | .lxor => pJJ st fun x y r => nx (pc + 1) ls (.long (x ^^^ y) :: r) h
  | .lshl => pJI st fun x y r => nx (pc + 1) ls (.long (x <<< (y.toInt64 &&& 63)) :: r) h
  | .lshr => pJI st fun x y r => nx (pc + 1) ls (.long (x >>> (y.toInt64 &&& 63)) :: r) h
  | .lcmp => pJJ st fun x y r => nx (pc + 1) ls (.int (lg_cmp x y) :: r) h
  | .i2l => pI st fun x r => nx (pc + 1) ls (.long x.toInt64 :: r) h
  | .l2i => pJ st fun x r => nx (pc + 1) ls (.int x.toInt32 :: r) h
  | .i2c => pI st fun x r => nx (pc + 1) ls (.int (x.toUInt32 % 65536).toInt32 :: r) h
  | .i2b => pI st fun x r => nx (pc + 1) ls (.int x.toInt8.toInt32 :: r) h
  | .dup => p1 st fun v r => nx (pc + 1) ls (v :: v :: r) h
  | .dup2 => p11 st fun v w r => nx (pc + 1) ls (v :: w :: v :: w :: r) h
  | .pop => p1 st fun _ r => nx (pc + 1) ls r h
  | .goto off => jm pc off fun t => nx t ls st h
  | .ifCond c off => pI st fun x r => jm pc off fun t => ccI c x 0 (nx t ls r h) (nx (pc + 3) ls r h)
  | .if_icmp c off => pII st fun x y r => jm pc off fun t => ccI c x y (nx t ls r h) (nx (pc + 3) ls r h)
  | .tableswitch d lo _ offs => pI st fun x r => tsw pc x d (fun t => nx t ls r h) lo offs.toList
  | .lookupswitch d ps => pI st fun x r => lsw pc x d (fun t => nx t ls r h) ps.toList
  | .getstatic idx => getS mi idx pc ls st h
  | .getfield idx => getF mi idx pc ls st h
  | .putfield idx => putF mi idx pc ls st h
  | .iaload => pRI st fun a i r => br (a = 1000003) (ck (inb i (hS h).1) (nx (pc + 1) ls (.int ((hS h).2 i.toNatClampNeg) :: r) h)) (ck (arr h a 10 ∧ inb i (hLn h a)) (nx (pc + 1) ls (.int (hI h a i.toNatClampNeg) :: r) h))
  | .baload => pRI st fun a i r => br (a = 1000002) (ck (inb i 208) (nx (pc + 1) ls (.int (ownB i.toNatClampNeg) :: r) h)) (ck ((arr h a 11 ∨ arr h a 12) ∧ inb i (hLn h a)) (nx (pc + 1) ls (.int (hI h a i.toNatClampNeg) :: r) h))
  | .laload => pRI st fun a i r => ck (arr h a 13 ∧ inb i (hLn h a)) (nx (pc + 1) ls (.long (hL h a i.toNatClampNeg) :: r) h)
  | .aaload => pRI st fun a i r => ck (arr h a 14 ∧ inb i (hLn h a)) (nx (pc + 1) ls (rv (hR h a i.toNatClampNeg) :: r) h)
  | .iastore => pRII st fun a i x r => ck (arr h a 10 ∧ inb i (hLn h a)) (nx (pc + 1) ls r (sI h a i.toNatClampNeg x))
  | .bastore => pRII st fun a i x r => ck ((arr h a 11 ∨ arr h a 12) ∧ inb i (hLn h a)) (nx (pc + 1) ls r (sI h a i.toNatClampNeg (if lay a = 11 then vp_nar .byte x else vp_nar .boolean x)))
  | .lastore => pRIJ st fun a i x r => ck (arr h a 13 ∧ inb i (hLn h a)) (nx (pc + 1) ls r (sL h a i.toNatClampNeg x))
  | .aastore => pRIR st fun a i x r => ck (arr h a 14 ∧ arr h x 6 ∧ inb i (hLn h a)) (nx (pc + 1) ls r (sR h a i.toNatClampNeg (some x)))
  | .arraylength => pR st fun a r => br (a = 1000000) (nx (pc + 1) ls (.int (Int32.ofNat 0) :: r) h) (br (a = 1000002) (nx (pc + 1) ls (.int (Int32.ofNat 208) :: r) h) (br (a = 1000003) (nx (pc + 1) ls (.int (Int32.ofNat (hS h).1) :: r) h) (ck (a < hN h ∧ 10 ≤ lay a) (nx (pc + 1) ls (.int (Int32.ofNat (hLn h a)) :: r) h))))
  | .newarray t => pI st fun n r => ck (0 ≤ n.toInt ∧ n.toInt ≤ 1000000 ∧ lay (hN h) = atK t) (nx (pc + 2) ls (.ref (hN h) :: r) (alc h n.toNatClampNeg n.toNatClampNeg))
  | .anewarray idx => (match clsT (oiOf mi) idx with
    | some (ci, _) => bif ci == 6 then pI st fun n r => ck (0 ≤ n.toInt ∧ n.toInt ≤ 1000000 ∧ lay (hN h) = 14) (nx (pc + 3) ls (.ref (hN h) :: r) (alc h n.toNatClampNeg n.toNatClampNeg)) else none
    | none => none)
  | .new idx => (match clsT (oiOf mi) idx with
    | some (ci, _) => ck (lay (hN h) = ci) (nx (pc + 3) ls (.ref (hN h) :: st) (alc h 0 (nfl ci)))
    | none => none)
  | .invokevirtual idx => invV mi idx st h
  | .invokestatic idx => invS mi idx pc ls st h
  | .invokespecial idx => invI mi idx pc ls st h
  | .ireturn => pIe st fun x => (match rkOf mi with
    | 0 => rtn (some (.int x))
    | 1 => ck (x = 0 ∨ x = 1) (rtn (some (.int x)))
    | 5 => ck (0 ≤ x.toInt ∧ x.toInt < 65536) (rtn (some (.int x)))
    | _ => none)
  | .lreturn => pJe st fun x => (match rkOf mi with
    | 2 => rtn (some (.long x))
    | _ => none)
  | .areturn => pRe st fun x => (match rkOf mi with
    | 3 => rtn (some (.ref x))
    | _ => none)
  | .return_ => pE st (match rkOf mi with
    | 4 => rtn none
    | _ => none)
  | _ => none
def ent (ml : Nat) (as : List Value) : List Value := flt as ++ List.replicate (ml - (flt as).length) uu
def exec : Nat → Nat → Nat → Nat → List Value → List Value → AH → Option (Option Value × AH)
  | 0, _, _, _, _, _, _ => none
  | f + 1, d, mi, pc, ls, st, h => match ins mi pc with
    | none => none
    | some (i, _) => match step mi i pc ls st h with
      | none => none
      | some (.inl q) => exec f d mi q.1 q.2.1 q.2.2.1 q.2.2.2
      | some (.inr (.inl q)) => match d with
        | 0 => none
        | d' + 1 => match exec f d' q.1 0 (ent (mlOf q.1) q.2.1) [] h with
          | none => none
          | some (r, h1) => exec f (d' + 1) mi (pc + 3) ls (r.toList ++ q.2.2) h1
      | some (.inr (.inr r)) => some (r, h)
