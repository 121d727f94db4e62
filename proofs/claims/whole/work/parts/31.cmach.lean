/-! THE CONSTRUCTORS' MACHINE: closed runs that make cells. The heap: a list of cells in the order in which they are made (address: base + place). Updates rebuild the list in continuations, so that the kernel keeps it explicit. -/
abbrev aF : Type := Option Nat ⊕ Int32
abbrev aC : Type := (Nat × List aF) ⊕ ((Nat × List Int32) ⊕ (Nat × Nat))
abbrev aH : Type := List aC
abbrev aO : Type := Option aH
def ag (b : Bool) (x : aO) : aO := cond b x none
def setK {α : Type} : List α → Nat → α → (List α → aO) → aO
  | [], _, _, _ => none
  | _ :: t, 0, c, k => k (c :: t)
  | x :: t, i + 1, c, k => setK t i c (fun t' => k (x :: t'))
def appK {α : Type} : List α → List α → (List α → aO) → aO
  | [], b, k => k b
  | x :: t, b, k => appK t b (fun t' => k (x :: t'))
/-- a list, its spine made explicit -/
def repK {α : Type} (c : α) : Nat → (List α → aO) → aO
  | 0, k => k []
  | n + 1, k => repK c n (fun t => k (c :: t))
def obK (h : aH) (v : mV) (k : Nat → Nat → List aF → aO) : aO := match v with
  | .inl (.ref a) => (match h[a]? with
    | some (.inl (ci, fs)) => k a ci fs
    | _ => none)
  | _ => none
def arA (h : aH) (v : mV) (t : Nat) (k : Nat → List Int32 → aO) : aO := match v with
  | .inl (.ref a) => (match h[a]? with
    | some (.inr (.inl (t', l))) => ag (Nat.beq t' t) (k a l)
    | _ => none)
  | _ => none
def isRT (t : FieldType) : Bool := match t with
  | .object _ => true
  | .array _ => true
  | _ => false
def fvK (h : aH) (t : FieldType) (v : mV) (k : aF → aO) : aO := match v with
  | .inl (.int x) => ag (decide (t = .int)) (k (.inr x))
  | .inl (.ref b) => ag (isRT t && Nat.blt b h.length) (k (.inl (some b)))
  | _ => none
/-- the room that is left -/
def rmA (κ n0 c sl n : Nat) (h : aH) : Bool := Nat.ble (h.length + c) (n0 + aMc κ) && (Nat.ble (sl + n) (aMs κ) && Nat.ble (h.length + c) mNN)
def callA (nx : Nat → mL → List mV → Nat → aH → aO) (cl : Nat → mL → aH → aO) (κ ν n0 pc : Nat) (L : mL) (sl : Nat) (h : aH) (as r : List mV) : aO :=
  ag ((Nat.ble (aFr ν + 1) (aFr κ) && Nat.ble (8 + (aMx ν + 11) + aLo ν) (aLo κ)) && ((Nat.ble (catS r) 8 && Nat.ble (slL as).length (aMx ν)) && rmA κ n0 (aMc ν) sl (aMs ν) h)) (match cl ν (argL (aMx ν) as) h with
    | some h' => ag (Nat.beq h'.length (h.length + aMc ν)) (nx (pc + 3) L r (sl + aMs ν) h')
    | none => none)
def ppA : Nat → List mV → (List mV → List mV → aO) → aO
  | 0, st, k => k [] st
  | n + 1, v :: st, k => ppA n st (fun as r => k (as ++ [v]) r)
  | _ + 1, [], _ => none
def jtA (pc : Nat) (off : Int) (k : Nat → aO) : aO := match (pc : Int) + off with
  | .ofNat t => k t
  | .negSucc _ => none
def i1 (st : List mV) (k : Int32 → List mV → aO) : aO := match st with
  | .inl (.int x) :: r => k x r
  | _ => none
def i2 (st : List mV) (k : Int32 → Int32 → List mV → aO) : aO := match st with
  | .inl (.int y) :: .inl (.int x) :: r => k x y r
  | _ => none
def p1 (st : List mV) (k : mV → List mV → aO) : aO := match st with
  | v :: r => k v r
  | _ => none
def exA (nx : Nat → mL → List mV → Nat → aH → aO) (cl : Nat → mL → aH → aO) (κ n0 pc n : Nat) (L : mL) (st : List mV) (sl : Nat) (h : aH) (i : Instr) : aO := match i with
  | .iconst v => nx (pc + n) L (pI (Int32.ofInt v) :: st) sl h
  | .bipush v => nx (pc + n) L (pI (Int8.ofInt v).toInt32 :: st) sl h
  | .sipush v => nx (pc + n) L (pI (Int16.ofInt v).toInt32 :: st) sl h
  | .iload_n k => (match L.getD k none with
    | some (.inl (.int x)) => nx (pc + n) L (pI x :: st) sl h
    | _ => none)
  | .aload_n k => (match L.getD k none with
    | some (.inl (.ref a)) => nx (pc + n) L (pA a :: st) sl h
    | _ => none)
  | .istore_n k => i1 st fun x r => ag (okS L k) (nx (pc + n) (L.set k (some (pI x))) r sl h)
  | .iinc k c => (match L.getD k none with
    | some (.inl (.int x)) => ag (okS L k) (nx (pc + n) (L.set k (some (pI (x + Int32.ofInt c)))) st sl h)
    | _ => none)
  | .goto off => jtA pc off fun t => nx t L st sl h
  | .if_icmp .eq off => i2 st fun x y r => jtA pc off fun t => if x = y then nx t L r sl h else nx (pc + n) L r sl h
  | .if_icmp .ne off => i2 st fun x y r => jtA pc off fun t => if x = y then nx (pc + n) L r sl h else nx t L r sl h
  | .if_icmp .ge off => i2 st fun x y r => jtA pc off fun t => if y ≤ x then nx t L r sl h else nx (pc + n) L r sl h
  | .ifCond .ne off => i1 st fun x r => jtA pc off fun t => if x = 0 then nx (pc + n) L r sl h else nx t L r sl h
  | .dup => p1 st fun v r => ag (Nat.beq (catV v) 1) (nx (pc + n) L (v :: v :: r) sl h)
  | .new cp => (match lk (nwC (aCl κ)) cp with
    | some ci => ag (rmA κ n0 1 sl (aD ci).length h) (appK h [.inl (ci, aD ci)] fun h' => nx (pc + n) L (pA h.length :: st) (sl + (aD ci).length) h')
    | none => none)
  | .newarray .int => i1 st fun x r => ag (!(decide (x < 0)) && (Nat.ble x.toNatClampNeg 1000 && rmA κ n0 1 sl x.toNatClampNeg h)) (repK (0 : Int32) x.toNatClampNeg fun l => appK h [.inr (.inl (0, l))] fun h' => nx (pc + n) L (pA h.length :: r) (sl + x.toNatClampNeg) h')
  | .newarray .boolean => i1 st fun x r => ag (!(decide (x < 0)) && (Nat.ble x.toNatClampNeg 1000 && rmA κ n0 1 sl x.toNatClampNeg h)) (repK (0 : Int32) x.toNatClampNeg fun l => appK h [.inr (.inl (1, l))] fun h' => nx (pc + n) L (pA h.length :: r) (sl + x.toNatClampNeg) h')
  | .multianewarray cp 2 => (match lk (mnC (aCl κ)) cp with
    | some _ => i2 st fun m k r => ag ((!(decide (m < 0)) && Nat.ble m.toNatClampNeg 1000) && ((!(decide (k < 0)) && Nat.ble k.toNatClampNeg 1000) && rmA κ n0 (1 + m.toNatClampNeg) sl (m.toNatClampNeg + m.toNatClampNeg * k.toNatClampNeg) h))
        (repK (0 : Int32) k.toNatClampNeg fun l => repK (.inr (.inl (0, l)) : aC) m.toNatClampNeg fun g => appK h (.inr (.inr (m.toNatClampNeg, h.length + 1)) :: g) fun h' => nx (pc + n) L (pA h.length :: r) (sl + (m.toNatClampNeg + m.toNatClampNeg * k.toNatClampNeg)) h')
    | none => none)
  | .getfield cp => p1 st fun v r => obK h v fun _ ci fs => (match lk (flC (aCl κ)) cp with
    | some f => ag (Nat.beq f.1 ci && (Nat.blt ci 12 && Nat.blt f.2 (aD ci).length)) (match fs[f.2]? with
      | some (.inl (some b)) => ag (Nat.blt b mNN) (nx (pc + n) L (pA b :: r) sl h)
      | some (.inr x) => nx (pc + n) L (pI x :: r) sl h
      | _ => none)
    | none => none)
  | .putfield cp => p1 st fun w r0 => p1 r0 fun v r => obK h v fun a ci fs => (match lk (flC (aCl κ)) cp with
    | some f => ag (Nat.beq f.1 ci && (Nat.blt ci 12 && Nat.blt f.2 (aD ci).length)) (ag (cond (Tv ci f.2).2.2.2 (aIn κ && Nat.beq ci (aCl κ)) true) (fvK h (tyA ci f.2) w fun z => setK fs f.2 z fun fs' => setK h a (.inl (ci, fs')) fun h' => nx (pc + n) L r sl h'))
    | none => none)
  | .getstatic cp => (match lk (gsC (aCl κ)) cp with
    | some (.inl a) => nx (pc + n) L (pA a :: st) sl h
    | _ => none)
  | .iaload => i1 st fun i r0 => p1 r0 fun v r => arA h v 0 fun _ l => ag (inb i l.length) (nx (pc + n) L (pI (l.getD i.toNatClampNeg 0) :: r) sl h)
  | .iastore => i2 st fun i x r0 => p1 r0 fun v r => arA h v 0 fun a l => ag (inb i l.length) (setK l i.toNatClampNeg x fun l' => setK h a (.inr (.inl (0, l'))) fun h' => nx (pc + n) L r sl h')
  | .bastore => i2 st fun i x r0 => p1 r0 fun v r => arA h v 1 fun a l => ag (bz x && inb i l.length) (setK l i.toNatClampNeg x fun l' => setK h a (.inr (.inl (1, l'))) fun h' => nx (pc + n) L r sl h')
  | .arraylength => p1 st fun v r => arA h v 0 fun _ l => nx (pc + n) L (pI (Int32.ofNat l.length) :: r) sl h
  | .invokespecial cp => (match lk (oiC (aCl κ)) cp with
    | some _ => p1 st fun v r => obK h v fun _ _ _ => ag (Nat.ble 1 (aFr κ) && Nat.ble (catS r + 12) (aLo κ)) (nx (pc + n) L r sl h)
    | none => (match lk (alC (aCl κ)) cp with
      | some ν => ag (aIn ν && !(aSa ν)) (ppA (aAr ν) st fun as r => (match as with
        | v :: _ => obK h v fun _ _ _ => callA nx cl κ ν n0 pc L sl h as r
        | [] => none))
      | none => none))
  | .invokevirtual cp => (match lk (alC (aCl κ)) cp with
    | some ν => ag (!(aIn ν) && !(aSa ν)) (ppA (aAr ν) st fun as r => (match as with
      | v :: _ => obK h v fun _ ci _ => ag (Nat.beq ci (aCl ν)) (callA nx cl κ ν n0 pc L sl h as r)
      | [] => none))
    | none => none)
  | .invokestatic cp => (match lk (alC (aCl κ)) cp with
    | some ν => ag (aSa ν && !(aIn ν)) (ppA (aAr ν) st fun as r => callA nx cl κ ν n0 pc L sl h as r)
    | none => (match lk (acC (aCl κ)) cp with
      | some _ => (match st with
        | .inl (.int k) :: .inl (.int dp) :: vd :: .inl (.int sp) :: .inl (.ref q) :: r => (match cK q with
          | some f => arA h vd 0 fun d l => ag (Nat.ble 1 (aFr κ) && (Nat.ble (catS r + 18) (aLo κ) && (cpOK sp dp k f.length l.length && (decide (sp = 0) && (decide (dp = 0) && (Nat.beq k.toNatClampNeg l.length && Nat.beq f.length l.length)))))) (setK h d (.inr (.inl (0, f))) fun h' => nx (pc + n) L r sl h')
          | none => none)
        | _ => none)
      | none => (match lk (mmC (aCl κ)) cp with
        | some 1 => i2 st fun x y r => ag (rmA κ n0 0 sl 0 h && (Nat.ble 1 (aFr κ) && Nat.ble (catS r + 13) (aLo κ))) (nx (pc + n) L (pI (jMax x y) :: r) sl h)
        | _ => none)))
  | .return_ => (match st with
    | [] => ag (Nat.beq h.length (n0 + aMc κ) && Nat.ble sl (aMs κ)) (some h)
    | _ => none)
  | _ => none
def lenA (i : Instr) (n : Nat) : Bool := match i with
  | .bipush _ => Nat.beq n 2
  | .sipush _ => Nat.beq n 3
  | .iinc _ _ => Nat.beq n 3
  | .goto _ => Nat.beq n 3
  | .if_icmp _ _ => Nat.beq n 3
  | .ifCond _ _ => Nat.beq n 3
  | .new _ => Nat.beq n 3
  | .newarray _ => Nat.beq n 2
  | .multianewarray _ _ => Nat.beq n 4
  | .getfield _ => Nat.beq n 3
  | .putfield _ => Nat.beq n 3
  | .getstatic _ => Nat.beq n 3
  | .invokespecial _ => Nat.beq n 3
  | .invokevirtual _ => Nat.beq n 3
  | .invokestatic _ => Nat.beq n 3
  | _ => Nat.beq n 1
def r1 : Nat → Nat → Nat → Nat → mL → List mV → Nat → aH → aO
  | 0, _, _, _, _, _, _, _ => none
  | n + 1, κ, n0, pc, L, st, sl, h => match lk (aKt κ) pc with
    | some q => ag (Nat.blt κ aMany && lenA q.1 q.2) (exA (fun pc' L' st' sl' h' => r1 n κ n0 pc' L' st' sl' h') (fun ν L' h' => r1 n ν h'.length 0 L' [] 0 h') κ n0 pc q.2 L st sl h q.1)
    | none => none
/-- the first object, then the second -/
def aRun (n : Nat) : aO := match r1 n 10 1 0 (argL (aMx 10) [pA 0]) [] 0 [.inl (10, aD 10)] with
  | some h1 => ag (Nat.beq h1.length 183) (appK h1 [.inl (11, aD 11)] fun h2 => r1 n 11 184 0 (argL (aMx 11) [pA 183]) [] 0 h2)
  | none => none
