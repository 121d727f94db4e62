/-- ALL RUNS of the constructors' machine -/
theorem r1_sim (l : Launch) {D : va_G} {base : Nat} {kv : Nat → Option Nat} {cI cZ cG : ClassId} {xs : Nat → Int32} {nS : Nat} : ∀ (n : Nat) (p : Program) (e : Env) (R : Room) (s0 : State) (m : MethodId) (args : Array Value) (below : List Frame) (meth : Method) (c : Code) (κ n0 pc : Nat) (L : mL) (st : List mV) (sl : Nat) (h hF : aH),
    r1 n κ n0 pc L st sl h = some hF → aCx p R s0 m args meth c D base kv cI cZ cG xs nS κ n0 → meth.sig.returnType = none → meth.locks = false → aG p l e R s0 m args below meth c (MQ below (aQc base cI cZ cG D hF) args s0 (aMc κ) (aMs κ) (Ab base)) D base kv cI cZ cG (aMx κ) n0 pc L st sl h := by
  intro n
  induction n with
  | zero => intro p e R s0 m args below meth c κ n0 pc L st sl h hF e0; cases e0
  | succ n ih =>
    intro p e R s0 m args below meth c κ n0 pc L st sl h hF e0 hCx hr hlocks
    have e0 : (match lk (aKt κ) pc with
      | some q => ag (Nat.blt κ aMany && lenA q.1 q.2) (exA (fun pc' L' st' sl' h' => r1 n κ n0 pc' L' st' sl' h') (fun ν L' h' => r1 n ν h'.length 0 L' [] 0 h') κ n0 pc q.2 L st sl h q.1)
      | none => none) = some hF := e0
    cases hi : lk (aKt κ) pc with
    | none => rw [hi] at e0; cases e0
    | some q =>
      rw [hi] at e0
      obtain ⟨g1, g2⟩ := ag_inv e0
      simp only [Bool.and_eq_true] at g1
      have hd : decode (aBy κ) pc = .ok (q.1, q.2) := by
        have := List.all_eq_true.mp (aI_dec κ) _ (lk_mem hi)
        simpa using this
      refine exA_sim hCx (fun pc' L' st' sl' h' h2 => ih p e R s0 m args below meth c κ n0 pc' L' st' sl' h' hF h2 hCx hr hlocks) (fun ν as h1 h2 hν hlen hne1 hne2 h3 => ?_) hr hlocks hd g1.2 g2
      obtain ⟨o1, o2, o3, o4, o5, o6, o7, o8, o9, o10⟩ := aI_ok ν hν
      refine Met.ofW (cc := aBy ν) (maxL := aMx ν) (ret := none) o2 rfl ?_
      intro p2 e2 s02 m2 args2 below2 meth2 c2 s12 B hml2 hv
      obtain ⟨rfl, hP2, hK2, hC2, hsz2⟩ := hv
      have hts2 := atoms_spec (ws := Cond.code (aNm ν) (aBy ν) (aMx ν) none :: wF) B.pre
      have hown2 : s02.vm.findClass (cN (aCl ν)) = some m2.cls := by
        have := findClass_of_methodNamed B.named
        rw [o4] at this
        exact this
      have hlocks2 := B.notSynchronized
      have hr2 := B.returns
      have hx2 := B.exec
      have hb2 := B.bytes
      rw [lg_entry_eq]
      exact ih p2 e2 (aRoom ν) s02 m2 _ below2 meth2 c2 ν h1.length 0 (argL (aMx ν) as) [] 0 h1 h2 h3 ⟨hx2, hb2, hml2, hν, hown2, fun w hw => hts2 w (List.mem_cons_of_mem _ hw), hK2, hC2, hsz2, fun hin => (name_of_methodNamed B.named B.method).1.trans (o9 hin), Nat.le_refl _, Nat.le_refl _, Nat.le_refl _, Nat.le_refl _⟩ hr2 hlocks2 _ s02.heap [] 0 rfl hne1 hne2 (LR_entry as hlen) hP2 va_S.rf
