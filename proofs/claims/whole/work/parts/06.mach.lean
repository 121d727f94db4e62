/-! THE ABSTRACT MACHINE, its step: continuation-passing, so that a run of it unfolds to a tree -/
def inb (i : Int32) (n : Nat) : Bool := !(decide (i < 0)) && decide (i.toNatClampNeg < n)
def gd (b : Bool) (x : mO) : mO := cond b x none
def wr (s : mSt) (a j : Nat) (v : Int32) : mSt := fun q => if q = a then upd (s a) j v else s q
def cpw (s : mSt) (a : Nat) (f : Nat → Int32) (sp dp n : Nat) : mSt := fun q => if q = a then va_cpy f (s a) sp dp n else s q
def rI (v : Int32) (s : mSt) : mO := some (some (pI v), s)
def rV (s : mSt) : mO := some (none, s)
def rA (a : Nat) (s : mSt) : mO := some (some (pA a), s)
def bI (o : mO) (k : Int32 → mSt → mO) : mO := match o with
  | some (some (.inl (.int v)), s) => k v s
  | _ => none
def bV (o : mO) (k : mSt → mO) : mO := match o with
  | some (none, s) => k s
  | _ => none
def bA (o : mO) (k : Nat → mSt → mO) : mO := match o with
  | some (some (.inl (.ref a)), s) => k a s
  | _ => none
def k1 (st : List mV) (k : Int32 → List mV → mO) : mO := match st with
  | .inl (.int x) :: r => k x r
  | _ => none
def k2 (st : List mV) (k : Int32 → Int32 → List mV → mO) : mO := match st with
  | .inl (.int y) :: .inl (.int x) :: r => k x y r
  | _ => none
def j1 (st : List mV) (k : Int64 → List mV → mO) : mO := match st with
  | .inl (.long x) :: r => k x r
  | _ => none
def j2 (st : List mV) (k : Int64 → Int64 → List mV → mO) : mO := match st with
  | .inl (.long y) :: .inl (.long x) :: r => k x y r
  | _ => none
def ji (st : List mV) (k : Int64 → Int32 → List mV → mO) : mO := match st with
  | .inl (.int y) :: .inl (.long x) :: r => k x y r
  | _ => none
def ldI (L : mL) (i : Nat) (k : Int32 → mO) : mO := match L.getD i none with
  | some (.inl (.int x)) => k x
  | _ => none
def ldJ (L : mL) (i : Nat) (k : Int64 → mO) : mO := match L.getD i none with
  | some (.inl (.long x)) => k x
  | _ => none
def ldA (L : mL) (i : Nat) (k : mV → mO) : mO := match L.getD i none with
  | some (.inl (.ref a)) => k (.inl (.ref a))
  | some (.inr q) => k (.inr q)
  | _ => none
def popA (st : List mV) (k : mV → List mV → mO) : mO := match st with
  | .inl (.ref a) :: r => k (.inl (.ref a)) r
  | .inr q :: r => k (.inr q) r
  | _ => none
def catV : mV → Nat
  | .inl (.long _) => 2
  | .inl (.double _) => 2
  | _ => 1
def catS (st : List mV) : Nat := (st.map catV).sum
def isJ (v : Option mV) : Bool := match v with
  | some w => Nat.beq (catV w) 2
  | none => false
def prJ (L : mL) : Nat → Bool
  | 0 => true
  | j + 1 => !(isJ (L.getD j none))
def okS (L : mL) (i : Nat) : Bool := Nat.blt i L.length && prJ L i
def jtK (pc : Nat) (off : Int) (k : Nat → mO) : mO := match (pc : Int) + off with
  | .ofNat t => k t
  | .negSucc _ => none
def swK (x : Int32) (pc : Nat) (d : Int) : Int → List Int → (Nat → mO) → mO
  | _, [], k => jtK pc d k
  | v, o :: os, k => if x = Int32.ofInt v then jtK pc o k else swK x pc d (v + 1) os k
def maskL : Nat → mL → mL
  | _, [] => []
  | m, x :: L => (cond (Nat.beq (m % 2) 1) x none) :: maskL (m / 2) L
/-- an array of ints that may be written: its cell and its length -/
def arK (v : mV) (k : Nat → Nat → mO) : mO := match v with
  | .inl (.ref a) => (match iK a with
    | some n => k a n
    | none => none)
  | .inr (g, r) => (match gK g with
    | some q => gd (Nat.blt r q.1) (k (q.2.2 + r) q.2.1)
    | none => none)
  | _ => none
/-- an array of ints that is read: what it holds and its length -/
def srK (v : mV) (s : mSt) (k : (Nat → Int32) → Nat → mO) : mO := match v with
  | .inl (.ref a) => (match iK a with
    | some n => k (s a) n
    | none => (match cK a with
      | some l => k (fun j => l.getD j 0) l.length
      | none => cond (Nat.beq a idScr) (k (s idScr) (s idLen 0).toNatClampNeg) none))
  | .inr (g, r) => (match gK g with
    | some q => gd (Nat.blt r q.1) (k (s (q.2.2 + r)) q.2.1)
    | none => none)
  | _ => none
/-- an array of ints that is copied from -/
def crK (v : mV) (s : mSt) (k : (Nat → Int32) → Nat → mO) : mO := match v with
  | .inl (.ref a) => (match iK a with
    | some n => k (s a) n
    | none => (match cK a with
      | some l => k (fun j => l.getD j 0) l.length
      | none => none))
  | .inr (g, r) => (match gK g with
    | some q => gd (Nat.blt r q.1) (k (s (q.2.2 + r)) q.2.1)
    | none => none)
  | _ => none
def lenK (v : mV) (s : mSt) (k : Int32 → mO) : mO := match v with
  | .inl (.ref a) => (match iK a with
    | some n => k (Int32.ofNat n)
    | none => (match bK a with
      | some i => k (Int32.ofNat (bLen i))
      | none => cond (Nat.beq a idScr) (k (Int32.ofNat (s idLen 0).toNatClampNeg)) none))
  | .inr (g, r) => (match gK g with
    | some q => gd (Nat.blt r q.1) (k (Int32.ofNat q.2.1))
    | none => none)
  | _ => none
def cpOK (sp dp n : Int32) (ns nd : Nat) : Bool := !(decide (sp < 0)) && (!(decide (dp < 0)) && (!(decide (n < 0)) && (Nat.ble (sp.toNatClampNeg + n.toNatClampNeg) ns && Nat.ble (dp.toNatClampNeg + n.toNatClampNeg) nd)))
def jAbs (x : Int32) : Int32 := if 0 ≤ x then x else 0 - x
def jMax (x y : Int32) : Int32 := if x < y then y else x
def jMin (x y : Int32) : Int32 := if y < x then y else x
def bz (v : Int32) : Bool := decide (v = 0) || decide (v = 1)
/-- what an answer must be -/
def narB (t : Option FieldType) (v : Int32) : Bool := match t with
  | some .int => true
  | some .boolean => bz v
  | some ty => decide (narrow ty (.int v) = .int v)
  | none => false
def ppN : Nat → List mV → (List mV → List mV → mO) → mO
  | 0, st, k => k [] st
  | n + 1, v :: st, k => ppN n st (fun as r => k (as ++ [v]) r)
  | _ + 1, [], _ => none
def slL : List mV → mL
  | [] => []
  | v :: vs => cond (Nat.beq (catV v) 2) (some v :: none :: slL vs) (some v :: slL vs)
def argL (n : Nat) (vs : List mV) : mL := slL vs ++ List.replicate (n - (slL vs).length) none
abbrev mKt (μ : Nat) := (mI μ).1
abbrev mBy (μ : Nat) := (mI μ).2.1
abbrev mNm (μ : Nat) := (mI μ).2.2.1
abbrev mMx (μ : Nat) := (mI μ).2.2.2.1
abbrev mRt (μ : Nat) := (mI μ).2.2.2.2.1
abbrev mCl (μ : Nat) := (mI μ).2.2.2.2.2.1
abbrev mAr (μ : Nat) := (mI μ).2.2.2.2.2.2.1
abbrev mSa (μ : Nat) := (mI μ).2.2.2.2.2.2.2.1
abbrev mFr (μ : Nat) := (mI μ).2.2.2.2.2.2.2.2.1
abbrev mLo (μ : Nat) := (mI μ).2.2.2.2.2.2.2.2.2
def rmOK (μ ν : Nat) : Bool := Nat.ble (mFr ν + 1) (mFr μ) && Nat.ble (8 + (mMx ν + 11) + mLo ν) (mLo μ)
def rcvOK (ν : Nat) (v : mV) : Bool := match v with
  | .inl (.ref a) => (match oK a with
    | some q => Nat.beq q.1 (mCl ν)
    | none => (match sK a with
      | some _ => Nat.beq (mCl ν) ciStr
      | none => false))
  | _ => false
def rtK (t : Option FieldType) (o : mO) (kV : mSt → mO) (kI : Int32 → mSt → mO) (kA : Nat → mSt → mO) : mO := match t with
  | none => bV o kV
  | some .int => bI o kI
  | some .boolean => bI o kI
  | some .byte => bI o kI
  | some .char => bI o kI
  | some (.object _) => bA o kA
  | _ => none
def callK (nx : Nat → mL → List mV → mSt → mO) (cl : Nat → mL → mSt → mO) (μ ν pc : Nat) (L : mL) (s : mSt) (as r : List mV) : mO :=
  gd (rmOK μ ν && (Nat.ble (catS r) 8 && Nat.ble (slL as).length (mMx ν))) (rtK (mRt ν) (cl ν (argL (mMx ν) as) s) (fun s' => nx (pc + 3) L r s') (fun v s' => nx (pc + 3) L (pI v :: r) s') (fun a s' => nx (pc + 3) L (pA a :: r) s'))
def exI (nx : Nat → mL → List mV → mSt → mO) (cl : Nat → mL → mSt → mO) (μ pc n : Nat) (L : mL) (st : List mV) (s : mSt) (i : Instr) : mO := match i with
  | .iconst v => nx (pc + n) L (pI (Int32.ofInt v) :: st) s
  | .bipush v => nx (pc + n) L (pI (Int8.ofInt v).toInt32 :: st) s
  | .sipush v => nx (pc + n) L (pI (Int16.ofInt v).toInt32 :: st) s
  | .lconst v => nx (pc + n) L (pJ (Int64.ofNat v) :: st) s
  | .iload k => ldI L k fun x => nx (pc + n) L (pI x :: st) s
  | .iload_n k => ldI L k fun x => nx (pc + n) L (pI x :: st) s
  | .lload k => ldJ L k fun x => nx (pc + n) L (pJ x :: st) s
  | .lload_n k => ldJ L k fun x => nx (pc + n) L (pJ x :: st) s
  | .aload k => ldA L k fun v => nx (pc + n) L (v :: st) s
  | .aload_n k => ldA L k fun v => nx (pc + n) L (v :: st) s
  | .istore k => k1 st fun x r => gd (okS L k) (nx (pc + n) (L.set k (some (pI x))) r s)
  | .istore_n k => k1 st fun x r => gd (okS L k) (nx (pc + n) (L.set k (some (pI x))) r s)
  | .astore k => popA st fun v r => gd (okS L k) (nx (pc + n) (L.set k (some v)) r s)
  | .astore_n k => popA st fun v r => gd (okS L k) (nx (pc + n) (L.set k (some v)) r s)
  | .lstore k => j1 st fun x r => gd (okS L k && Nat.blt (k + 1) L.length) (nx (pc + n) ((L.set k (some (pJ x))).set (k + 1) none) r s)
  | .iinc k c => ldI L k fun x => gd (okS L k) (nx (pc + n) (L.set k (some (pI (x + Int32.ofInt c)))) st s)
  | .iadd => k2 st fun x y r => nx (pc + n) L (pI (x + y) :: r) s
  | .isub => k2 st fun x y r => nx (pc + n) L (pI (x - y) :: r) s
  | .imul => k2 st fun x y r => nx (pc + n) L (pI (x * y) :: r) s
  | .iand => k2 st fun x y r => nx (pc + n) L (pI (x &&& y) :: r) s
  | .ior => k2 st fun x y r => nx (pc + n) L (pI (x ||| y) :: r) s
  | .ixor => k2 st fun x y r => nx (pc + n) L (pI (x ^^^ y) :: r) s
  | .ishl => k2 st fun x y r => nx (pc + n) L (pI (x <<< (y &&& 31)) :: r) s
  | .ishr => k2 st fun x y r => nx (pc + n) L (pI (x >>> (y &&& 31)) :: r) s
  | .iushr => k2 st fun x y r => nx (pc + n) L (pI (x.toUInt32 >>> (y.toUInt32 &&& Int32.toUInt32 31)).toInt32 :: r) s
  | .idiv => k2 st fun x y r => gd (!(decide (y = 0))) (nx (pc + n) L (pI (x / y) :: r) s)
  | .irem => k2 st fun x y r => gd (!(decide (y = 0))) (nx (pc + n) L (pI (x - x / y * y) :: r) s)
  | .ineg => k1 st fun x r => nx (pc + n) L (pI (-x) :: r) s
  | .i2l => k1 st fun x r => nx (pc + n) L (pJ x.toInt64 :: r) s
  | .i2b => k1 st fun x r => nx (pc + n) L (pI x.toInt8.toInt32 :: r) s
  | .i2s => k1 st fun x r => nx (pc + n) L (pI x.toInt16.toInt32 :: r) s
  | .i2c => k1 st fun x r => nx (pc + n) L (pI (x.toUInt32 % 65536).toInt32 :: r) s
  | .l2i => j1 st fun x r => nx (pc + n) L (pI x.toInt32 :: r) s
  | .ladd => j2 st fun x y r => nx (pc + n) L (pJ (x + y) :: r) s
  | .land => j2 st fun x y r => nx (pc + n) L (pJ (x &&& y) :: r) s
  | .lor => j2 st fun x y r => nx (pc + n) L (pJ (x ||| y) :: r) s
  | .lshl => ji st fun x y r => nx (pc + n) L (pJ (x <<< (y.toInt64 &&& 63)) :: r) s
  | .lshr => ji st fun x y r => nx (pc + n) L (pJ (x >>> (y.toInt64 &&& 63)) :: r) s
  | .lushr => ji st fun x y r => nx (pc + n) L (pJ (x.toUInt64 >>> (y.toInt64.toUInt64 &&& Int64.toUInt64 63)).toInt64 :: r) s
  | .lcmp => j2 st fun x y r => nx (pc + n) L (pI (lg_cmp x y) :: r) s
  | .dup => (match st with
    | v :: r => gd (Nat.beq (catV v) 1) (nx (pc + n) L (v :: v :: r) s)
    | _ => none)
  | .dup2 => (match st with
    | v :: w :: r => gd (Nat.beq (catV v) 1 && Nat.beq (catV w) 1) (nx (pc + n) L (v :: w :: v :: w :: r) s)
    | _ => none)
  | .pop => (match st with
    | v :: r => gd (Nat.beq (catV v) 1) (nx (pc + n) L r s)
    | _ => none)
  | .goto off => jtK pc off fun t => nx t L st s
  | .if_icmp .eq off => k2 st fun x y r => jtK pc off fun t => if x = y then nx t L r s else nx (pc + n) L r s
  | .if_icmp .ne off => k2 st fun x y r => jtK pc off fun t => if x = y then nx (pc + n) L r s else nx t L r s
  | .if_icmp .lt off => k2 st fun x y r => jtK pc off fun t => if x < y then nx t L r s else nx (pc + n) L r s
  | .if_icmp .ge off => k2 st fun x y r => jtK pc off fun t => if y ≤ x then nx t L r s else nx (pc + n) L r s
  | .if_icmp .gt off => k2 st fun x y r => jtK pc off fun t => if y < x then nx t L r s else nx (pc + n) L r s
  | .if_icmp .le off => k2 st fun x y r => jtK pc off fun t => if x ≤ y then nx t L r s else nx (pc + n) L r s
  | .ifCond .eq off => k1 st fun x r => jtK pc off fun t => if x = 0 then nx t L r s else nx (pc + n) L r s
  | .ifCond .ne off => k1 st fun x r => jtK pc off fun t => if x = 0 then nx (pc + n) L r s else nx t L r s
  | .ifCond .lt off => k1 st fun x r => jtK pc off fun t => if x < 0 then nx t L r s else nx (pc + n) L r s
  | .ifCond .ge off => k1 st fun x r => jtK pc off fun t => if 0 ≤ x then nx t L r s else nx (pc + n) L r s
  | .ifCond .gt off => k1 st fun x r => jtK pc off fun t => if 0 < x then nx t L r s else nx (pc + n) L r s
  | .ifCond .le off => k1 st fun x r => jtK pc off fun t => if x ≤ 0 then nx t L r s else nx (pc + n) L r s
  | .tableswitch d lo hi offs => k1 st fun x r => gd (decide (hi = lo + (offs.toList.length : Int) - 1) && (decide ((-2147483648 : Int) ≤ lo) && decide (hi < 2147483648))) (swK x pc d lo offs.toList (fun t => nx t L r s))
  | .getfield cp => (match st with
    | .inl (.ref a) :: r => (match oK a with
      | some q => (match lk (flC (mCl μ)) cp with
        | some f => gd (Nat.beq f.1 q.1) (match q.2[f.2]? with
          | some (some b) => nx (pc + n) L (pA b :: r) s
          | some none => nx (pc + n) L (pI (s a f.2) :: r) s
          | none => none)
        | none => none)
      | none => (match sK a with
        | some i => (match lk (sfC (mCl μ)) cp with
          | some true => nx (pc + n) L (pA (idByt + i) :: r) s
          | some false => nx (pc + n) L (pI 0 :: r) s
          | none => none)
        | none => none))
    | _ => none)
  | .putfield cp => (match st with
    | .inl (.int v) :: .inl (.ref a) :: r => (match oK a with
      | some q => (match lk (flC (mCl μ)) cp with
        | some f => gd (Nat.beq f.1 q.1) (match q.2[f.2]? with
          | some none => nx (pc + n) L r (wr s a f.2 v)
          | _ => none)
        | none => none)
      | none => none)
    | _ => none)
  | .getstatic cp => (match lk (gsC (mCl μ)) cp with
    | some (.inl a) => nx (pc + n) L (pA a :: st) s
    | some (.inr v) => nx (pc + n) L (pI v :: st) s
    | none => none)
  | .ldc cp => (match lk (ilC (mCl μ)) cp with
    | some v => nx (pc + n) L (pI v :: st) s
    | none => (match lk (slC (mCl μ)) cp with
      | some a => nx (pc + n) L (pA a :: st) s
      | none => none))
  | .ldc_w cp => (match lk (ilC (mCl μ)) cp with
    | some v => nx (pc + n) L (pI v :: st) s
    | none => none)
  | .ldc2_w cp => (match lk (jlC (mCl μ)) cp with
    | some v => nx (pc + n) L (pJ v :: st) s
    | none => none)
  | .iaload => (match st with
    | .inl (.int i) :: v :: r => srK v s fun f k => gd (inb i k) (nx (pc + n) L (pI (f i.toNatClampNeg) :: r) s)
    | _ => none)
  | .iastore => (match st with
    | .inl (.int x) :: .inl (.int i) :: v :: r => arK v fun a k => gd (inb i k) (nx (pc + n) L r (wr s a i.toNatClampNeg x))
    | _ => none)
  | .baload => (match st with
    | .inl (.int i) :: .inl (.ref a) :: r => (match zK a with
      | some k => gd (inb i k) (nx (pc + n) L (pI (s a i.toNatClampNeg) :: r) s)
      | none => (match bK a with
        | some b => gd (inb i (bLen b)) (nx (pc + n) L (pI (bByt b i.toNatClampNeg) :: r) s)
        | none => none))
    | _ => none)
  | .bastore => (match st with
    | .inl (.int x) :: .inl (.int i) :: .inl (.ref a) :: r => (match zK a with
      | some k => gd (bz x && inb i k) (nx (pc + n) L r (wr s a i.toNatClampNeg x))
      | none => none)
    | _ => none)
  | .aaload => (match st with
    | .inl (.int i) :: .inl (.ref g) :: r => (match gK g with
      | some q => gd (inb i q.1) (nx (pc + n) L (.inr (g, i.toNatClampNeg) :: r) s)
      | none => none)
    | _ => none)
  | .arraylength => (match st with
    | v :: r => lenK v s fun k => nx (pc + n) L (pI k :: r) s
    | _ => none)
  | .invokevirtual cp => (match lk (mlC (mCl μ)) cp with
    | some ν => gd (!(mSa ν)) (ppN (mAr ν) st fun as r => (match as with
      | v :: _ => gd (rcvOK ν v) (callK nx cl μ ν pc L s as r)
      | [] => none))
    | none => none)
  | .invokestatic cp => (match lk (mlC (mCl μ)) cp with
    | some ν => gd (mSa ν) (ppN (mAr ν) st fun as r => callK nx cl μ ν pc L s as r)
    | none => (match lk (acC (mCl μ)) cp with
      | some _ => (match st with
        | .inl (.int k) :: .inl (.int dp) :: vd :: .inl (.int sp) :: vs :: r => arK vd fun d nd => crK vs s fun f ns => gd (Nat.ble 1 (mFr μ) && (Nat.ble (catS r + 18) (mLo μ) && cpOK sp dp k ns nd)) (nx (pc + n) L r (cpw s d f sp.toNatClampNeg dp.toNatClampNeg k.toNatClampNeg))
        | _ => none)
      | none => (match lk (mmC (mCl μ)) cp with
        | some 0 => k1 st fun x r => gd (Nat.ble 1 (mFr μ) && Nat.ble (catS r + 13) (mLo μ)) (nx (pc + n) L (pI (jAbs x) :: r) s)
        | some 1 => k2 st fun x y r => gd (Nat.ble 1 (mFr μ) && Nat.ble (catS r + 13) (mLo μ)) (nx (pc + n) L (pI (jMax x y) :: r) s)
        | some 2 => k2 st fun x y r => gd (Nat.ble 1 (mFr μ) && Nat.ble (catS r + 13) (mLo μ)) (nx (pc + n) L (pI (jMin x y) :: r) s)
        | _ => none)))
  | .ireturn => (match st with
    | [.inl (.int v)] => gd (narB (mRt μ) v) (some (some (pI v), s))
    | _ => none)
  | .areturn => (match st with
    | [.inl (.ref a)] => (match mRt μ with
      | some (.object _) => some (some (pA a), s)
      | _ => none)
    | _ => none)
  | .return_ => (match st with
    | [] => (match mRt μ with
      | none => some (none, s)
      | _ => none)
    | _ => none)
  | _ => none
/-- how long an instruction is -/
def lenOK (i : Instr) (n : Nat) : Bool := match i with
  | .bipush _ => Nat.beq n 2
  | .iload _ => Nat.beq n 2
  | .lload _ => Nat.beq n 2
  | .aload _ => Nat.beq n 2
  | .istore _ => Nat.beq n 2
  | .lstore _ => Nat.beq n 2
  | .astore _ => Nat.beq n 2
  | .ldc _ => Nat.beq n 2
  | .sipush _ => Nat.beq n 3
  | .iinc _ _ => Nat.beq n 3
  | .ldc_w _ => Nat.beq n 3
  | .ldc2_w _ => Nat.beq n 3
  | .goto _ => Nat.beq n 3
  | .if_icmp _ _ => Nat.beq n 3
  | .ifCond _ _ => Nat.beq n 3
  | .getfield _ => Nat.beq n 3
  | .putfield _ => Nat.beq n 3
  | .getstatic _ => Nat.beq n 3
  | .invokevirtual _ => Nat.beq n 3
  | .invokestatic _ => Nat.beq n 3
  | .tableswitch _ _ _ _ => true
  | _ => Nat.beq n 1
def ins (μ pc : Nat) : Option (Instr × Nat) := cond (Nat.blt μ mMany) (lk (mKt μ) pc) none
/-- a step, then on to nx -/
def stK (nx : Nat → mL → List mV → mSt → mO) (cl : Nat → mL → mSt → mO) (μ pc : Nat) (L : mL) (st : List mV) (s : mSt) : mO := match ins μ pc with
  | some q => gd (lenOK q.1 q.2) (exI nx cl μ pc q.2 L st s q.1)
  | none => none
/-- steps from one cut point to the next: at a cut point what is no longer needed of the locals is forgotten -/
def Phi (re : Nat → Nat → mL → List mV → mSt → mO) : Nat → Nat → Nat → mL → List mV → mSt → mO
  | 0, μ, pc, L, st, s => re μ pc L st s
  | k + 1, μ, pc, L, st, s => stK (fun pc' L' st' s' => match lk (cutC μ) pc' with
    | some m => re μ pc' (maskL m L') st' s'
    | none => Phi re k μ pc' L' st' s') (fun ν L' s' => re ν 0 L' [] s') μ pc L st s
def run : Nat → Nat → Nat → mL → List mV → mSt → mO
  | 0, _, _, _, _, _ => none
  | n + 1, μ, pc, L, st, s => Phi (run n) 1 μ pc L st s
