section ASTEP
variable {p : Program} {l : Launch} {e : Env} {R : Room} {s0 : State} {m : MethodId} {args : Array Value} {below : List Frame} {meth : Method} {c : Code} {H : Heap} {locs : List Loc} {cells slots : Nat} {Q : State → Prop} {D : va_G} {base : Nat} {kv : Nat → Option Nat} {cI cZ cG : ClassId} {xs : Nat → Int32} {nS : Nat}
theorem new_q {n0 q : Nat} {h : aH} {E : va_E} {H1 : Heap} (hs : s0.heap.size = base + n0) (hn : n0 + cells = h.length) (hP1 : va_P D vwCl (w1 base cI cZ cG h ++ [(q, E)]) H1) (hD1 : va_D (Ab base) (w1 base cI cZ cG h ++ [(q, E)])) (hle : H1.size ≤ s0.heap.size + (cells + 1)) : q = base + h.length := by
  have g1 : (w1 base cI cZ cG h ++ [(q, E)])[h.length]? = some (q, E) := by
    rw [List.getElem?_append_right (by rw [w1_len]; exact Nat.le_refl _), w1_len, Nat.sub_self]
    rfl
  have g2 : q < H1.size := (hP1 _ _ g1).lt
  have g3 : base ≤ q := hD1.2 _ _ g1
  have g4 : ¬ q < base + h.length := by
    intro hlt
    have hi : q - base < h.length := by omega
    have g5 : (w1 base cI cZ cG h ++ [(q, E)])[q - base]? = some (base + (q - base), aE base cI cZ cG h[q - base]) := by
      rw [List.getElem?_append_left (by rw [w1_len]; exact hi), w1_get, List.getElem?_eq_getElem hi]
      rfl
    have := hD1.1 _ _ _ _ g5 g1 (show base + (q - base) = q by omega)
    omega
  omega
theorem vo_outer (c : ClassId) (N h0 : Nat) : ∀ i : Nat, Jvm.Free.Multi.outerC c N h0 i = arrV c N (fun j => va_rf (if j < i then some (h0 + 1 + j) else none)) := by
  intro i
  induction i with
  | zero =>
    refine Eq.trans (b := arrV c N (fun _ => .null)) (arrV_new ..) ?_
    refine congrArg (arrV c N) (funext fun j => ?_)
    rw [if_neg (Nat.not_lt_zero j)]
    rfl
  | succ i ih =>
    have e1 : Jvm.Free.Multi.outerC c N h0 (i + 1) = (Jvm.Free.Multi.outerC c N h0 i).setSlot i (.ref (h0 + 1 + i)) := rfl
    rw [e1, ih, arrV_store]
    refine congrArg (arrV c N) (funext fun j => ?_)
    by_cases q : j = i
    · subst q
      simp [updV, va_rf]
    · by_cases h : j < i
      · simp [updV, q, h, Nat.lt_succ_of_lt h]
      · simp [updV, q, h, show ¬ j < i + 1 by omega]
theorem amna {cc : ByteArray} {pc : Nat} {ls : Array Slot} {rest : List Value} (hx : p.tables.exec = Jvm.exec) (hb : c.code = cc) {own : String} {index : Nat} (hown : s0.vm.findClass own = some m.cls) (hcl : (Cond.classLink own index "[[I").before args s0 = true) (hov : aOv s0) (harr : (Cond.arrayClass .int).before args s0 = true) (hK : va_K D vwCl (tyL cI cZ cG) s0) {h : aH} (hP : va_P D vwCl (w1 base cI cZ cG h) H) (hS : va_S (Ab base) s0.heap H locs) (hsz : H.size = base + h.length)
    {n k : Int32} (hn : ¬ n < 0) (hk : ¬ k < 0) (hn1 : n.toNatClampNeg ≤ 1000) (hk1 : k.toNatClampNeg ≤ 1000) (hcells : cells + (1 + n.toNatClampNeg) ≤ R.cells) (hslots : slots + (n.toNatClampNeg + n.toNatClampNeg * k.toNatClampNeg) ≤ R.slots) (hd : decode cc pc = .ok (.multianewarray index 2, 4))
    (kk : ∀ H1 : Heap, va_P D vwCl (w1 base cI cZ cG (h ++ (.inr (.inr (n.toNatClampNeg, h.length + 1)) :: List.replicate n.toNatClampNeg (.inr (.inl (0, List.replicate k.toNatClampNeg 0)))))) H1 → va_S (Ab base) s0.heap H1 locs → W p l e R s0 m args below meth c H1 locs (cells + (1 + n.toNatClampNeg)) (slots + (n.toNatClampNeg + n.toNatClampNeg * k.toNatClampNeg)) Q (F0 m (pc + 4) ls (.ref (base + h.length) :: rest))) : W p l e R s0 m args below meth c H locs cells slots Q (F0 m pc ls (.int k :: .int n :: rest)) := by
  intro T hT X
  have es : "[" ++ (FieldType.array .int).toString = "[[I" := by decide
  obtain ⟨vm₁, cA, comp, hW, hfA, hfC, hO, hI, X1, st⟩ := X.multianewarray2F (ty := .int) hx hown (by rw [es]; exact hcl) (Jvm.Stand.arrayOver_alikeB (Vm.Alike.refl _) hov) harr (g := F0 m pc ls (.int k :: .int n :: rest)) rfl (by rw [hb]; exact hd) rfl hn hk (by omega) (by show k.toNatClampNeg * 4 ≤ _; omega) (by omega) rfl rfl hcells hslots
  have eA : cA = cG := Option.some.inj (hfA.symm.trans (show s0.vm.findClass _ = some cG from (hK.2 2 (cG, .array .int) rfl).2))
  have eI : comp = cI := Option.some.inj (hfC.symm.trans (show s0.vm.findClass _ = some cI from (hK.2 0 (cI, .int) rfl).2))
  subst eA; subst eI
  have hTh : (T.setVm vm₁).heap = H := hT
  have hTs : T.heap.size = base + h.length := by rw [hT]; exact hsz
  obtain ⟨f1, f2, -, -⟩ := Jvm.Free.Multi.fill_facts (T.setVm vm₁) cA comp n.toNatClampNeg k.toNatClampNeg (defaultValue .int) n.toNatClampNeg
  have fo := fun (a : Nat) (ha : a < (T.setVm vm₁).heap.size) => Jvm.Free.Multi.fill_old (T.setVm vm₁) cA comp n.toNatClampNeg k.toNatClampNeg (defaultValue .int) (a := a) ha n.toNatClampNeg
  have fi := fun (j : Nat) (hj : j < n.toNatClampNeg) => Jvm.Free.Multi.fill_inner (T.setVm vm₁) cA comp n.toNatClampNeg k.toNatClampNeg (defaultValue .int) n.toNatClampNeg j hj
  rw [hTh] at f1 f2 fo fi
  rw [hsz] at f1 f2 fi
  generalize Jvm.Free.Multi.fill (T.setVm vm₁) cA comp n.toNatClampNeg k.toNatClampNeg (defaultValue .int) n.toNatClampNeg = F at X1 st f1 f2 fo fi
  have hP1 : va_P D vwCl (w1 base comp cZ cA (h ++ (.inr (.inr (n.toNatClampNeg, h.length + 1)) :: List.replicate n.toNatClampNeg (.inr (.inl (0, List.replicate k.toNatClampNeg 0)))))) F.heap := by
    intro i q hq
    rw [w1_get] at hq
    by_cases hi : i < h.length
    · rw [List.getElem?_append_left hi, ← w1_get] at hq
      have h9 := hP i q hq
      exact h9.kept (fo q.1 h9.lt)
    · rw [List.getElem?_append_right (by omega)] at hq
      cases hj : i - h.length with
      | zero =>
        rw [hj] at hq
        cases hq
        show F.heap[base + i]? = some (vp_cell _ _)
        rw [show base + i = base + h.length by omega, f2, vo_outer, vp_cell_q]
        refine congrArg some (congrArg (arrV cA n.toNatClampNeg) (funext fun j => congrArg va_rf ?_))
        rw [show base + h.length + 1 + j = base + (h.length + 1 + j) by omega]
      | succ j =>
        rw [hj, List.getElem?_cons_succ] at hq
        by_cases hjn : j < n.toNatClampNeg
        · rw [List.getElem?_replicate_of_lt hjn] at hq
          cases hq
          show F.heap[base + i]? = some (vp_cell _ _)
          rw [show base + i = base + h.length + 1 + j by omega, fi j hjn]
          refine congrArg some ?_
          refine Eq.trans (b := arrV comp k.toNatClampNeg (fun _ => .int 0)) (arrV_new ..) ?_
          show _ = arrV comp (List.replicate k.toNatClampNeg (0 : Int32)).length (fun j => .int ((List.replicate k.toNatClampNeg (0 : Int32)).getD j 0))
          rw [List.length_replicate]
          exact congrArg (arrV comp k.toNatClampNeg) (funext fun j => by rw [rep_get])
        · rw [List.getElem?_eq_none (by simp; omega)] at hq
          cases hq
  obtain ⟨t, a1, b1⟩ := kk F.heap hP1 ⟨by rw [f1]; have := hS.1; omega, fun q g1 g2 => (fo q (Nat.lt_of_lt_of_le g1 hS.1)).trans (hS.2.1 q g1 g2), hS.2.2⟩ F rfl (by
    have := X1
    rw [show cells + 1 + n.toNatClampNeg = cells + (1 + n.toNatClampNeg) by omega, show slots + n.toNatClampNeg + n.toNatClampNeg * k.toNatClampNeg = slots + (n.toNatClampNeg + n.toNatClampNeg * k.toNatClampNeg) by omega] at this
    exact this)
  refine ⟨t, st t ?_, b1⟩
  rw [hTs]
  exact a1
theorem w1_iw {h : aH} {a : Nat} {tt : Nat} {l0 : List Int32} {i : Nat} {x : Int32} {H1 : Heap} (hi : i < l0.length) (ha : a < h.length) (hP : va_P D vwCl ((w1 base cI cZ cG h).set a (base + a, .inl (cond (Nat.beq tt 0) cI cZ, l0.length, .inl (upd (fun j => l0.getD j 0) i x)))) H1) : va_P D vwCl (w1 base cI cZ cG (h.set a (.inr (.inl (tt, l0.set i x))))) H1 := by
  rw [← w1_set ha]
  show va_P D vwCl ((w1 base cI cZ cG h).set a (base + a, .inl (cond (Nat.beq tt 0) cI cZ, (l0.set i x).length, .inl (fun j => (l0.set i x).getD j 0)))) H1
  rw [List.length_set, ← upd_set hi]
  exact hP
theorem cell_lt {h : aH} {a : Nat} {z : aC} (e : h[a]? = some z) : a < h.length := (List.getElem?_eq_some_iff.mp e).1
set_option maxHeartbeats 20000000 in
theorem exA_sim {κ n0 : Nat} (hCx : aCx p R s0 m args meth c D base kv cI cZ cG xs nS κ n0) {nx : Nat → mL → List mV → Nat → aH → aO} {cl : Nat → mL → aH → aO} {hF : aH}
    (hN : ∀ pc L st sl h, nx pc L st sl h = some hF → aG p l e R s0 m args below meth c (MQ below (aQc base cI cZ cG D hF) args s0 (aMc κ) (aMs κ) (Ab base)) D base kv cI cZ cG (aMx κ) n0 pc L st sl h)
    (hCl : ∀ ν as h1 h2, ν < 15 → (slL as).length ≤ aMx ν → 1 ≤ h1.length → h1.length ≤ mNN → cl ν (argL (aMx ν) as) h1 = some h2 → aMt l D base kv cI cZ cG xs nS ν as h1 h2)
    (hr : meth.sig.returnType = none) (hlocks : meth.locks = false) {pc n : Nat} {L : mL} {st : List mV} {sl : Nat} {h : aH} {i : Instr} (hd : decode (aBy κ) pc = .ok (i, n)) (hn : lenA i n = true) (e0 : exA nx cl κ n0 pc n L st sl h i = some hF) :
    aG p l e R s0 m args below meth c (MQ below (aQc base cI cZ cG D hF) args s0 (aMc κ) (aMs κ) (Ab base)) D base kv cI cZ cG (aMx κ) n0 pc L st sl h := by
  obtain ⟨hx, hb, hml, hκ, hown, hts, hK, hC, hs, hini, hRf, hRl, hRc, hRs⟩ := hCx
  have hcl19 : aCl κ < 19 := (aI_ok κ hκ).2.2.2.2.2.1
  intro ls H locs cells hn0 h1 hNN hl hP hS
  have hAb : ∀ q, s0.heap.size ≤ q → Ab base q := fun q hq => by show base ≤ q; omega
  have hml' : c.maxLocals = ls.size := by rw [hml]; exact hl.1.symm
  cases i
  case iconst v =>
    cases Nat.eq_of_beq_eq_true hn
    exact lv_iconst hx hb hd rfl (hN _ _ _ _ _ e0 ls H locs cells hn0 h1 hNN hl hP hS)
  case bipush v =>
    cases Nat.eq_of_beq_eq_true hn
    exact lv_bipush hx hb hd rfl (hN _ _ _ _ _ e0 ls H locs cells hn0 h1 hNN hl hP hS)
  case sipush v =>
    cases Nat.eq_of_beq_eq_true hn
    exact lv_sipush hx hb hd rfl (hN _ _ _ _ _ e0 ls H locs cells hn0 h1 hNN hl hP hS)
  case iload_n j =>
    cases Nat.eq_of_beq_eq_true hn
    replace e0 : (match L.getD j none with
      | some (.inl (.int x)) => nx (pc + 1) L (pI x :: st) sl h
      | _ => none) = some hF := e0
    split at e0
    next x ex => exact lv_iload_n hx hb hd rfl (LR_get hl ex) (hN _ _ _ _ _ e0 ls H locs cells hn0 h1 hNN hl hP hS)
    next => cases e0
  case aload_n j =>
    cases Nat.eq_of_beq_eq_true hn
    replace e0 : (match L.getD j none with
      | some (.inl (.ref a)) => nx (pc + 1) L (pA a :: st) sl h
      | _ => none) = some hF := e0
    split at e0
    next a ex =>
      have k := hN _ _ _ _ _ e0 ls H locs cells hn0 h1 hNN hl hP hS
      have g := LR_get hl ex
      rw [List.map_cons] at k
      rcases cv_rf base kv a with hz | ⟨z, hz⟩
      · rw [show cv base kv (pA a) = .null from hz] at k g
        exact lv_aload_nN hx hb hd rfl g k
      · rw [show cv base kv (pA a) = .ref z from hz] at k g
        exact lv_aload_n hx hb hd rfl g k
    next => cases e0
  case istore_n j =>
    cases Nat.eq_of_beq_eq_true hn
    obtain ⟨x, t, rfl, e1⟩ := i1_inv e0
    obtain ⟨g1, g2⟩ := ag_inv e1
    exact lv_istore_n hx hb hd rfl (LR_has hl) (by rw [← hl.2.1]; exact okS_lt g1) rfl (fun ls' h' => hN _ _ _ _ _ g2 ls' H locs cells hn0 h1 hNN (LR_set1 (v := pI x) hl.2.1 g1 h') hP hS)
  case iinc j cc =>
    cases Nat.eq_of_beq_eq_true hn
    replace e0 : (match L.getD j none with
      | some (.inl (.int x)) => ag (okS L j) (nx (pc + 3) (L.set j (some (pI (x + Int32.ofInt cc)))) st sl h)
      | _ => none) = some hF := e0
    split at e0
    next x ex =>
      obtain ⟨g1, g2⟩ := ag_inv e0
      obtain ⟨jj, hjj⟩ := List.getElem?_of_mem (asL_mem (base := base) (kv := kv) (getD_some ex))
      exact lv_iinc hx hb hd (LR_has hl) hjj rfl (by rw [← hl.2.1]; exact okS_lt g1) rfl (fun ls' h' => hN _ _ _ _ _ g2 ls' H locs cells hn0 h1 hNN (LR_set1 (v := pI (x + Int32.ofInt cc)) hl.2.1 g1 h') hP hS)
    next => cases e0
  case goto off =>
    cases Nat.eq_of_beq_eq_true hn
    obtain ⟨t, g1, g2⟩ := jtA_inv e0
    exact lv_goto hx hb hd g1 (hN _ _ _ _ _ g2 ls H locs cells hn0 h1 hNN hl hP hS)
  case if_icmp cond off =>
    cases cond
    case eq =>
      cases Nat.eq_of_beq_eq_true hn
      obtain ⟨x, y, t, rfl, e1⟩ := i2_inv e0
      obtain ⟨tg, g1, g2⟩ := jtA_inv e1
      obtain ⟨ha, hf⟩ := iteA_inv g2
      exact lv_icmp_eq hx hb hd g1 (fun q => hN _ _ _ _ _ (ha q) ls H locs cells hn0 h1 hNN hl hP hS) (fun q => hN _ _ _ _ _ (hf q) ls H locs cells hn0 h1 hNN hl hP hS)
    case ne =>
      cases Nat.eq_of_beq_eq_true hn
      obtain ⟨x, y, t, rfl, e1⟩ := i2_inv e0
      obtain ⟨tg, g1, g2⟩ := jtA_inv e1
      obtain ⟨ha, hf⟩ := iteA_inv g2
      exact lv_icmp_ne hx hb hd g1 (fun q => hN _ _ _ _ _ (hf q) ls H locs cells hn0 h1 hNN hl hP hS) (fun q => hN _ _ _ _ _ (ha q) ls H locs cells hn0 h1 hNN hl hP hS)
    case ge =>
      cases Nat.eq_of_beq_eq_true hn
      obtain ⟨x, y, t, rfl, e1⟩ := i2_inv e0
      obtain ⟨tg, g1, g2⟩ := jtA_inv e1
      obtain ⟨ha, hf⟩ := iteA_inv g2
      exact lv_icmp_ge hx hb hd g1 (fun q => hN _ _ _ _ _ (ha q) ls H locs cells hn0 h1 hNN hl hP hS) (fun q => hN _ _ _ _ _ (hf q) ls H locs cells hn0 h1 hNN hl hP hS)
    all_goals exact nomatch (show (none : aO) = some _ from e0)
  case ifCond cond off =>
    cases cond
    case ne =>
      cases Nat.eq_of_beq_eq_true hn
      obtain ⟨x, t, rfl, e1⟩ := i1_inv e0
      obtain ⟨tg, g1, g2⟩ := jtA_inv e1
      obtain ⟨ha, hf⟩ := iteA_inv g2
      exact lv_if_ne hx hb hd g1 (fun q => hN _ _ _ _ _ (hf q) ls H locs cells hn0 h1 hNN hl hP hS) (fun q => hN _ _ _ _ _ (ha q) ls H locs cells hn0 h1 hNN hl hP hS)
    all_goals exact nomatch (show (none : aO) = some _ from e0)
  case dup =>
    cases Nat.eq_of_beq_eq_true hn
    obtain ⟨v, t, rfl, e1⟩ := p1_inv e0
    obtain ⟨g1, g2⟩ := ag_inv e1
    exact lv_dup hx hb hd (by rw [cv_cat]; exact Nat.eq_of_beq_eq_true g1) (hN _ _ _ _ _ g2 ls H locs cells hn0 h1 hNN hl hP hS)
  case new cp =>
    cases Nat.eq_of_beq_eq_true hn
    replace e0 : (match lk (nwC (aCl κ)) cp with
      | some ci => ag (rmA κ n0 1 sl (aD ci).length h) (appK h [.inl (ci, aD ci)] fun h' => nx (pc + 3) L (pA h.length :: st) (sl + (aD ci).length) h')
      | none => none) = some hF := e0
    cases hf : lk (nwC (aCl κ)) cp with
    | none => rw [hf] at e0; cases e0
    | some ci =>
      rw [hf] at e0
      obtain ⟨g1, g2⟩ := ag_inv e0
      rw [appK_eq] at g2
      obtain ⟨r1', r2', r3'⟩ := rmA_inv g1
      obtain ⟨ww1, ww2, ww3, hci⟩ := nwC_ok (aCl κ) hcl19 _ (lk_mem hf)
      dsimp only at ww1 ww2 ww3 hci
      obtain ⟨⟨C, T, N⟩, hc⟩ : ∃ z, vwCl[ci]? = some z := ⟨_, List.getElem?_eq_getElem (show ci < vwCl.length from hci)⟩
      obtain ⟨eN, eC, ⟨hty, hnm⟩, eT, hul⟩ := clA_ok ci hci C T N hc
      subst eN
      subst eC
      obtain ⟨hdf1, hdf2⟩ := dfA_ok ci hci
      refine va_new (D := D) (fs := (aD ci).map (av base)) hx hb hts hul (tyA ci) hty hown (hts _ ww1) (hts _ ww2) (hts _ ww3) hK hP w1_D hS hAb hc (fun j hj => ?_) (by omega) (by omega) hd (fun q H1 hP1 hD1 hS1 => W_sz fun hle => ?_)
      · rw [hdf1 j hj]
        show _ = ((aD ci).map (av base)).getD j .null
        rw [List.getD_eq_getElem?_getD, List.getD_eq_getElem?_getD, List.getElem?_map, List.getElem?_eq_getElem hj]
        show avD (aD ci)[j] = av base (aD ci)[j]
        rcases hdf2 _ (List.getElem_mem hj) with hz | hz <;> rw [hz] <;> rfl
      · have eq := new_q hs hn0 hP1 hD1 hle
        subst eq
        have hP2 : va_P D vwCl (w1 base cI cZ cG (h ++ [.inl (ci, aD ci)])) H1 := by rw [← w1_app]; exact hP1
        have k := hN _ _ _ _ _ g2 ls H1 locs (cells + 1) (by simp; omega) (by simp) (by simp; omega) hl hP2 hS1
        rw [List.map_cons, show cv base kv (pA h.length) = .ref (base + h.length) from cv_lo (by omega)] at k
        exact k
  case newarray at0 =>
    cases at0
    case int =>
      cases Nat.eq_of_beq_eq_true hn
      obtain ⟨x, t, rfl, e1⟩ := i1_inv e0
      obtain ⟨g1, g2⟩ := ag_inv e1
      rw [repK_eq, appK_eq] at g2
      simp only [Bool.and_eq_true, Bool.not_eq_true', decide_eq_false_iff_not] at g1
      obtain ⟨c1, c2, c3⟩ := g1
      have c2 := Nat.le_of_ble_eq_true c2
      obtain ⟨r1', r2', r3'⟩ := rmA_inv c3
      have eN : x.toNatClampNeg = (List.replicate x.toNatClampNeg (0 : Int32)).length := by simp
      refine va_newa (D := D) (atype := .int) (ty := .int) (N' := (List.replicate x.toNatClampNeg (0 : Int32)).length) (a0 := ((List.replicate x.toNatClampNeg (0 : Int32)).length, .inl (fun j => (List.replicate x.toNatClampNeg (0 : Int32)).getD j 0))) hx hb (hts _ acI) rfl hK hP w1_D hS hAb (fun cA => ?_) c1 eN (by rw [← eN]; show x.toNatClampNeg * 4 ≤ _; omega) (by omega) (by rw [← eN]; omega) hd (fun q cA H1 hK1 hP1 hD1 hS1 => W_sz fun hle => ?_)
      · rw [vp_cell_i]
        exact congrArg (arrV cA _) (funext fun j => by rw [rep_get]; rfl)
      · have eq := new_q hs hn0 hP1 hD1 hle
        have ec := ce_int hK (hK1.2 3 (cA, .int) rfl).2
        subst eq; subst ec
        have hP2 : va_P D vwCl (w1 base cA cZ cG (h ++ [.inr (.inl (0, List.replicate x.toNatClampNeg 0))])) H1 := by rw [← w1_app]; exact hP1
        have k := hN _ _ _ _ _ g2 ls H1 locs (cells + 1) (by simp; omega) (by simp) (by simp; omega) hl hP2 hS1
        rw [List.map_cons, show cv base kv (pA h.length) = .ref (base + h.length) from cv_lo (by omega)] at k
        rw [← eN]
        exact k
    case boolean =>
      cases Nat.eq_of_beq_eq_true hn
      obtain ⟨x, t, rfl, e1⟩ := i1_inv e0
      obtain ⟨g1, g2⟩ := ag_inv e1
      rw [repK_eq, appK_eq] at g2
      simp only [Bool.and_eq_true, Bool.not_eq_true', decide_eq_false_iff_not] at g1
      obtain ⟨c1, c2, c3⟩ := g1
      have c2 := Nat.le_of_ble_eq_true c2
      obtain ⟨r1', r2', r3'⟩ := rmA_inv c3
      have eN : x.toNatClampNeg = (List.replicate x.toNatClampNeg (0 : Int32)).length := by simp
      refine va_newa (D := D) (atype := .boolean) (ty := .boolean) (N' := (List.replicate x.toNatClampNeg (0 : Int32)).length) (a0 := ((List.replicate x.toNatClampNeg (0 : Int32)).length, .inl (fun j => (List.replicate x.toNatClampNeg (0 : Int32)).getD j 0))) hx hb (hts _ acZ) rfl hK hP w1_D hS hAb (fun cA => ?_) c1 eN (by rw [← eN]; show x.toNatClampNeg * 1 ≤ _; omega) (by omega) (by rw [← eN]; omega) hd (fun q cA H1 hK1 hP1 hD1 hS1 => W_sz fun hle => ?_)
      · rw [vp_cell_i]
        exact congrArg (arrV cA _) (funext fun j => by rw [rep_get]; rfl)
      · have eq := new_q hs hn0 hP1 hD1 hle
        have ec := ce_bool hK (hK1.2 3 (cA, .boolean) rfl).2
        subst eq; subst ec
        have hP2 : va_P D vwCl (w1 base cI cA cG (h ++ [.inr (.inl (1, List.replicate x.toNatClampNeg 0))])) H1 := by rw [← w1_app]; exact hP1
        have k := hN _ _ _ _ _ g2 ls H1 locs (cells + 1) (by simp; omega) (by simp) (by simp; omega) hl hP2 hS1
        rw [List.map_cons, show cv base kv (pA h.length) = .ref (base + h.length) from cv_lo (by omega)] at k
        rw [← eN]
        exact k
    all_goals exact nomatch (show (none : aO) = some _ from e0)
  case multianewarray cp dims =>
    match dims, hd, hn, e0 with
    | 2, hd, hn, e0 =>
      cases Nat.eq_of_beq_eq_true hn
      replace e0 : (match lk (mnC (aCl κ)) cp with
        | some _ => i2 st fun m k r => ag ((!(decide (m < 0)) && Nat.ble m.toNatClampNeg 1000) && ((!(decide (k < 0)) && Nat.ble k.toNatClampNeg 1000) && rmA κ n0 (1 + m.toNatClampNeg) sl (m.toNatClampNeg + m.toNatClampNeg * k.toNatClampNeg) h))
          (repK (0 : Int32) k.toNatClampNeg fun l => repK (.inr (.inl (0, l)) : aC) m.toNatClampNeg fun g => appK h (.inr (.inr (m.toNatClampNeg, h.length + 1)) :: g) fun h' => nx (pc + 4) L (pA h.length :: r) (sl + (m.toNatClampNeg + m.toNatClampNeg * k.toNatClampNeg)) h')
        | none => none) = some hF := e0
      cases hf : lk (mnC (aCl κ)) cp with
      | none => rw [hf] at e0; cases e0
      | some z =>
        rw [hf] at e0
        obtain ⟨mm, k, t, rfl, e1⟩ := i2_inv e0
        obtain ⟨g1, g2⟩ := ag_inv e1
        rw [repK_eq, repK_eq, appK_eq] at g2
        simp only [Bool.and_eq_true, Bool.not_eq_true', decide_eq_false_iff_not] at g1
        obtain ⟨⟨c1, c2⟩, ⟨c3, c4⟩, c5⟩ := g1
        obtain ⟨r1', r2', r3'⟩ := rmA_inv c5
        have hlk : mnOK (aCl κ) (cp, z) := mnC_ok (aCl κ) hcl19 _ (lk_mem hf)
        refine W_sz fun hle => amna (D := D) hx hb hown (hts _ hlk) hC.2.1 (hts _ acI) hK hP hS (h_sz hs hn0 h1 hP hle) c1 c3 (Nat.le_of_ble_eq_true c2) (Nat.le_of_ble_eq_true c4) (by omega) (by omega) hd (fun H1 hP1 hS1 => ?_)
        have k := hN _ _ _ _ _ g2 ls H1 locs (cells + (1 + mm.toNatClampNeg)) (by simp; omega) (by simp; omega) (by simp; omega) hl hP1 hS1
        rw [List.map_cons, show cv base kv (pA h.length) = .ref (base + h.length) from cv_lo (by omega)] at k
        exact k
    | 0, hd, hn, e0 => exact nomatch (show (none : aO) = some _ from e0)
    | 1, hd, hn, e0 => exact nomatch (show (none : aO) = some _ from e0)
    | n + 3, hd, hn, e0 => exact nomatch (show (none : aO) = some _ from e0)
  case getfield cp =>
    cases Nat.eq_of_beq_eq_true hn
    obtain ⟨v, t, rfl, e1⟩ := p1_inv e0
    obtain ⟨a, ci, fs, rfl, ha, e2⟩ := obK_inv e1
    clear e0 e1
    replace e2 : (match lk (flC (aCl κ)) cp with
      | some f => ag (Nat.beq f.1 ci && (Nat.blt ci 12 && Nat.blt f.2 (aD ci).length)) (match fs[f.2]? with
        | some (.inl (some b)) => ag (Nat.blt b mNN) (nx (pc + 3) L (pA b :: t) sl h)
        | some (.inr x) => nx (pc + 3) L (pI x :: t) sl h
        | _ => none)
      | none => none) = some hF := e2
    cases hf : lk (flC (aCl κ)) cp with
    | none => rw [hf] at e2; cases e2
    | some f =>
      rw [hf] at e2
      dsimp only at e2
      obtain ⟨g1, g2⟩ := ag_inv e2
      simp only [Bool.and_eq_true] at g1
      obtain ⟨c1, c2, c3⟩ := g1
      have hlk : flOK (aCl κ) (cp, f) := flC_ok (aCl κ) hcl19 _ (lk_mem hf)
      have ef : f.1 = ci := Nat.eq_of_beq_eq_true c1
      have hlk : Cond.fieldLink (cN (aCl κ)) cp (Tv ci f.2).1 (Tv ci f.2).2.1 (Tv ci f.2).2.2.1 ∈ wF := by rw [← ef]; exact hlk
      have he := w1_at (base := base) (cI := cI) (cZ := cZ) (cG := cG) ha
      have hci : ci < 12 := blt_lt c2
      obtain ⟨⟨C, T, N⟩, hc⟩ : ∃ z, vwCl[ci]? = some z := ⟨_, List.getElem?_eq_getElem (show ci < vwCl.length from hci)⟩
      obtain ⟨eN, eC, ⟨hty, hnm⟩, eT, hul⟩ := clA_ok ci hci C T N hc
      subst eN; subst eC; subst eT
      have hlo : a < mNN := Nat.lt_of_lt_of_le (cell_lt ha) hNN
      rw [List.map_cons, show cv base kv (pA a) = .ref (base + a) from cv_lo hlo]
      have hlt : f.2 < (aD ci).length := blt_lt c3
      split at g2
      next b eb =>
        obtain ⟨c4, g3⟩ := ag_inv g2
        have k := hN _ _ _ _ _ g3 ls H locs cells hn0 h1 hNN hl hP hS
        rw [List.map_cons, show cv base kv (pA b) = .ref (base + b) from cv_lo (blt_lt c4)] at k
        exact va_get (D := D) hx hb hts hul hown hK hP a he hc f.2 hlt (hts _ hlk) (fun _ h9 => h9) (by rw [List.getElem?_map, eb]; rfl) hd k
      next x eb =>
        have k := hN _ _ _ _ _ g2 ls H locs cells hn0 h1 hNN hl hP hS
        exact va_get (D := D) hx hb hts hul hown hK hP a he hc f.2 hlt (hts _ hlk) (fun _ h9 => h9) (by rw [List.getElem?_map, eb]; rfl) hd k
      next => cases g2
  case putfield cp =>
    cases Nat.eq_of_beq_eq_true hn
    obtain ⟨w, t0, rfl, e1⟩ := p1_inv e0
    obtain ⟨v, t, rfl, e2⟩ := p1_inv e1
    obtain ⟨a, ci, fs, rfl, ha, e3⟩ := obK_inv e2
    clear e0 e1 e2
    replace e3 : (match lk (flC (aCl κ)) cp with
      | some f => ag (Nat.beq f.1 ci && (Nat.blt ci 12 && Nat.blt f.2 (aD ci).length)) (ag (cond (Tv ci f.2).2.2.2 (aIn κ && Nat.beq ci (aCl κ)) true) (fvK h (tyA ci f.2) w fun z => setK fs f.2 z fun fs' => setK h a (.inl (ci, fs')) fun h' => nx (pc + 3) L t sl h'))
      | none => none) = some hF := e3
    cases hf : lk (flC (aCl κ)) cp with
    | none => rw [hf] at e3; cases e3
    | some f =>
      rw [hf] at e3
      dsimp only at e3
      obtain ⟨g1, g2⟩ := ag_inv e3
      simp only [Bool.and_eq_true] at g1
      obtain ⟨c1, c2, c3⟩ := g1
      obtain ⟨g3, g4⟩ := ag_inv g2
      have hlk : flOK (aCl κ) (cp, f) := flC_ok (aCl κ) hcl19 _ (lk_mem hf)
      have ef : f.1 = ci := Nat.eq_of_beq_eq_true c1
      have hlk : Cond.fieldLink (cN (aCl κ)) cp (Tv ci f.2).1 (Tv ci f.2).2.1 (Tv ci f.2).2.2.1 ∈ wF := by rw [← ef]; exact hlk
      have he := w1_at (base := base) (cI := cI) (cZ := cZ) (cG := cG) ha
      have hci : ci < 12 := blt_lt c2
      obtain ⟨⟨C, T, N⟩, hc⟩ : ∃ z, vwCl[ci]? = some z := ⟨_, List.getElem?_eq_getElem (show ci < vwCl.length from hci)⟩
      obtain ⟨eN, eC, ⟨hty, hnm⟩, eT, hul⟩ := clA_ok ci hci C T N hc
      subst eN; subst eC; subst eT
      have hal := cell_lt ha
      have hlo : a < mNN := Nat.lt_of_lt_of_le hal hNN
      have hlt : f.2 < (aD ci).length := blt_lt c3
      have key : ∃ z : aF, av base z = cv base kv w ∧ (narrow (tyA ci f.2) (av base z) = av base z ∧ fits (tyA ci f.2) (av base z) = true) ∧ (setK fs f.2 z fun fs' => setK h a (.inl (ci, fs')) fun h' => nx (pc + 3) L t sl h') = some hF := by
        unfold fvK at g4
        split at g4
        next x =>
          obtain ⟨g5, g6⟩ := ag_inv g4
          have et : tyA ci f.2 = .int := by simpa using g5
          exact ⟨.inr x, rfl, by rw [et]; exact ⟨rfl, rfl⟩, g6⟩
        next b =>
          obtain ⟨g5, g6⟩ := ag_inv g4
          simp only [Bool.and_eq_true] at g5
          have hb : b < mNN := Nat.lt_of_lt_of_le (blt_lt g5.2) hNN
          exact ⟨.inl (some b), (cv_lo hb).symm, rt_ok g5.1, g6⟩
        next => cases g4
      obtain ⟨z, ez, ⟨hnr, hft⟩, g5⟩ := key
      obtain ⟨hfl, g6⟩ := setK_inv g5
      obtain ⟨-, g7⟩ := setK_inv g6
      rw [List.map_cons, List.map_cons, ← ez, show cv base kv (pA a) = .ref (base + a) from cv_lo hlo]
      have kk : ∀ (H1 : Heap) (locs1 : List Loc), va_P D vwCl ((w1 base cI cZ cG h).set a (base + a, .inr (ci, (fs.map (av base)).set f.2 (av base z)))) H1 → va_D (Ab base) ((w1 base cI cZ cG h).set a (base + a, .inr (ci, (fs.map (av base)).set f.2 (av base z)))) → va_S (Ab base) s0.heap H1 locs1 → W p l e R s0 m args below meth c H1 locs1 cells sl (MQ below (aQc base cI cZ cG D hF) args s0 (aMc κ) (aMs κ) (Ab base)) (F0 m (pc + 3) ls (t.map (cv base kv))) := by
        intro H1 locs1 hP1 _ hS1
        refine hN _ _ _ _ _ g7 ls H1 locs1 cells (by rw [List.length_set]; exact hn0) (by rw [List.length_set]; exact h1) (by rw [List.length_set]; exact hNN) hl ?_ hS1
        rw [← w1_set hal]
        show va_P D vwCl ((w1 base cI cZ cG h).set a (base + a, .inr (ci, (fs.set f.2 z).map (av base)))) H1
        rw [List.map_set]
        exact hP1
      cases hfin : (Tv ci f.2).2.2.2 with
      | false => exact va_put (D := D) (v := av base z) (ty := tyA ci f.2) hx hb hts hul (tyA ci) hty hnm hown hK hP w1_D hS a he hc f.2 hlt (hts _ hlk) (fun _ h9 => h9) hfin (hty f.2 hlt) hnr hft (by rw [List.length_map]; exact hfl) hd kk
      | true =>
        rw [hfin] at g3
        have g3 : (aIn κ && Nat.beq ci (aCl κ)) = true := g3
        simp only [Bool.and_eq_true] at g3
        have eci : ci = aCl κ := Nat.eq_of_beq_eq_true g3.2
        exact va_putF (D := D) (v := av base z) (ty := tyA ci f.2) hx hb hts hul (tyA ci) hty hnm hown hK hP w1_D hS a he hc f.2 hlt (hts _ hlk) (fun _ h9 => h9) hfin (hini g3.1) (by rw [tvA_ok ci hci f.2 hlt, eci]) (hty f.2 hlt) hnr hft (by rw [List.length_map]; exact hfl) hd kk
  case getstatic cp =>
    cases Nat.eq_of_beq_eq_true hn
    replace e0 : (match lk (gsC (aCl κ)) cp with
      | some (.inl a) => nx (pc + 3) L (pA a :: st) sl h
      | _ => none) = some hF := e0
    split at e0
    next a hf =>
      obtain ⟨C, nn, dd, hlk, hZ, hno⟩ := gsC_ok (aCl κ) hcl19 _ (lk_mem hf)
      have hZ := hZ _ _ _ _ _ _ hC.1
      have k := hN _ _ _ _ _ e0 ls H locs cells hn0 h1 hNN hl hP hS
      rw [List.map_cons, show cv base kv (pA a) = va_rf (kv a) from cv_hi (hno a rfl)] at k
      exact va_gets hx hb hZ hS hown (hts _ hlk) (fun _ h9 => h9) hd k
    next => cases e0
  case iaload =>
    cases Nat.eq_of_beq_eq_true hn
    obtain ⟨i, t0, rfl, e1⟩ := i1_inv e0
    obtain ⟨v, t, rfl, e2⟩ := p1_inv e1
    obtain ⟨a, l0, rfl, ha, e3⟩ := arA_inv e2
    obtain ⟨g1, g2⟩ := ag_inv e3
    have he := w1_at (base := base) (cI := cI) (cZ := cZ) (cG := cG) ha
    have hlo : a < mNN := Nat.lt_of_lt_of_le (cell_lt ha) hNN
    rw [List.map_cons, List.map_cons, show cv base kv (pA a) = .ref (base + a) from cv_lo hlo]
    exact va_iald (D := D) hx hb hK hP a 0 he rfl (inb_in g1) hd (hN _ _ _ _ _ g2 ls H locs cells hn0 h1 hNN hl hP hS)
  case arraylength =>
    cases Nat.eq_of_beq_eq_true hn
    obtain ⟨v, t, rfl, e2⟩ := p1_inv e0
    obtain ⟨a, l0, rfl, ha, g2⟩ := arA_inv e2
    have he := w1_at (base := base) (cI := cI) (cZ := cZ) (cG := cG) ha
    have hlo : a < mNN := Nat.lt_of_lt_of_le (cell_lt ha) hNN
    rw [List.map_cons, show cv base kv (pA a) = .ref (base + a) from cv_lo hlo]
    exact va_alen (D := D) hx hb hK hP a 0 he (ty := .int) rfl rfl hd (hN _ _ _ _ _ g2 ls H locs cells hn0 h1 hNN hl hP hS)
  case iastore =>
    cases Nat.eq_of_beq_eq_true hn
    obtain ⟨i, x, t0, rfl, e1⟩ := i2_inv e0
    obtain ⟨v, t, rfl, e2⟩ := p1_inv e1
    obtain ⟨a, l0, rfl, ha, e3⟩ := arA_inv e2
    obtain ⟨g1, g2⟩ := ag_inv e3
    obtain ⟨hil, g3⟩ := setK_inv g2
    obtain ⟨hal, g4⟩ := setK_inv g3
    have he := w1_at (base := base) (cI := cI) (cZ := cZ) (cG := cG) ha
    have hlo : a < mNN := Nat.lt_of_lt_of_le hal hNN
    rw [List.map_cons, List.map_cons, List.map_cons, show cv base kv (pA a) = .ref (base + a) from cv_lo hlo]
    exact va_iast (D := D) hx hb hK hP w1_D hS a 0 he rfl (inb_in g1) hd (fun H1 locs1 hP1 _ hS1 => hN _ _ _ _ _ g4 ls H1 locs1 cells (by rw [List.length_set]; exact hn0) (by rw [List.length_set]; exact h1) (by rw [List.length_set]; exact hNN) hl (w1_iw (tt := 0) hil hal hP1) hS1)
  case bastore =>
    cases Nat.eq_of_beq_eq_true hn
    obtain ⟨i, x, t0, rfl, e1⟩ := i2_inv e0
    obtain ⟨v, t, rfl, e2⟩ := p1_inv e1
    obtain ⟨a, l0, rfl, ha, e3⟩ := arA_inv e2
    obtain ⟨g1, g2⟩ := ag_inv e3
    simp only [Bool.and_eq_true] at g1
    obtain ⟨hil, g3⟩ := setK_inv g2
    obtain ⟨hal, g4⟩ := setK_inv g3
    have he := w1_at (base := base) (cI := cI) (cZ := cZ) (cG := cG) ha
    have hlo : a < mNN := Nat.lt_of_lt_of_le hal hNN
    rw [List.map_cons, List.map_cons, List.map_cons, show cv base kv (pA a) = .ref (base + a) from cv_lo hlo]
    exact va_zast (D := D) hx hb hK hP w1_D hS a 1 he rfl (inb_in g1.2) hd (fun H1 locs1 hP1 _ hS1 => hN _ _ _ _ _ g4 ls H1 locs1 cells (by rw [List.length_set]; exact hn0) (by rw [List.length_set]; exact h1) (by rw [List.length_set]; exact hNN) hl (w1_iw (tt := 1) hil hal (by rw [bz_nar g1.1] at hP1; exact hP1)) hS1)
  case return_ =>
    cases Nat.eq_of_beq_eq_true hn
    cases st with
    | cons w t => exact nomatch (show (none : aO) = some _ from e0)
    | nil =>
      replace e0 : ag (Nat.beq h.length (n0 + aMc κ) && Nat.ble sl (aMs κ)) (some h) = some hF := e0
      obtain ⟨g1, g2⟩ := ag_inv e0
      simp only [Bool.and_eq_true] at g1
      have c1 := Nat.eq_of_beq_eq_true g1.1
      have c2 := Nat.le_of_ble_eq_true g1.2
      cases g2
      refine W.widen (k := aMc κ) (n := aMs κ) (by omega) c2 ?_
      exact W.vret hx hb hr (fun t ht _ => ⟨⟨rfl, by rw [ht]; exact hP⟩, hS.F ht⟩) hS.2.2 hd hlocks
  case invokespecial cp =>
    cases Nat.eq_of_beq_eq_true hn
    replace e0 : (match lk (oiC (aCl κ)) cp with
      | some _ => p1 st fun v r => obK h v fun _ _ _ => ag (Nat.ble 1 (aFr κ) && Nat.ble (catS r + 12) (aLo κ)) (nx (pc + 3) L r sl h)
      | none => (match lk (alC (aCl κ)) cp with
        | some ν => ag (aIn ν && !(aSa ν)) (ppA (aAr ν) st fun as r => (match as with
          | v :: _ => obK h v fun _ _ _ => callA nx cl κ ν n0 pc L sl h as r
          | [] => none))
        | none => none)) = some hF := e0
    cases ho : lk (oiC (aCl κ)) cp with
    | some z =>
      rw [ho] at e0
      obtain ⟨v, t, rfl, e1⟩ := p1_inv e0
      obtain ⟨a, ci, fs, rfl, ha, e2⟩ := obK_inv e1
      obtain ⟨g1, g2⟩ := ag_inv e2
      simp only [Bool.and_eq_true] at g1
      have c1 := Nat.le_of_ble_eq_true g1.1
      have c2 := Nat.le_of_ble_eq_true g1.2
      have hlo : a < mNN := Nat.lt_of_lt_of_le (cell_lt ha) hNN
      have hlk : oiOK (aCl κ) (cp, z) := oiC_ok (aCl κ) hcl19 _ (lk_mem ho)
      rw [List.map_cons, show cv base kv (pA a) = .ref (base + a) from cv_lo hlo]
      refine W.objInit hx hb hown (hts _ hlk) (hts _ obw.1) (hts _ obw.2) rfl hml'.symm rfl hd (Nat.le_trans c1 hRf) (by rw [cv_cats]; show 2 * 0 + _ + 12 ≤ _; omega) ?_
      exact hN _ _ _ _ _ g2 ls H locs cells hn0 h1 hNN hl hP hS
    | none =>
      rw [ho] at e0
      dsimp only at e0
      cases hf : lk (alC (aCl κ)) cp with
      | none => rw [hf] at e0; cases e0
      | some ν =>
        rw [hf] at e0
        obtain ⟨g1, g2⟩ := ag_inv e0
        simp only [Bool.and_eq_true, Bool.not_eq_true'] at g1
        obtain ⟨as, rr, el, est, g3⟩ := ppA_inv g2
        clear e0 g2
        subst est
        cases as with
        | nil => cases g3
        | cons v as =>
          obtain ⟨a, ci, fs, rfl, ha, g4⟩ := obK_inv (show obK h v (fun _ _ _ => callA nx cl κ ν n0 pc L sl h (v :: as) rr) = some hF from g3)
          clear g3
          obtain ⟨hrm, hcat, hslen, hroom, h2, g5, g6, g7⟩ := callA_inv g4
          obtain ⟨r1', r2', r3'⟩ := rmA_inv hroom
          obtain ⟨hν, hlk⟩ := alC_ok (aCl κ) hcl19 _ (lk_mem hf)
          obtain ⟨o1, o2, o3, o4, o5, o6, o7, o8, o9, o10⟩ := aI_ok ν hν
          obtain ⟨w8, w9⟩ := o8 g1.2
          have hMet := hCl ν (pA a :: as) h h2 hν hslen h1 hNN g5
          have hlo : a < mNN := Nat.lt_of_lt_of_le (cell_lt ha) hNN
          have hst : ((pA a :: as).reverse ++ rr).map (cv base kv) = (as.map (cv base kv)).reverse ++ Value.ref (base + a) :: rr.map (cv base kv) := by
            simp [List.map_reverse]
            exact cv_lo hlo
          rw [hst]
          have e9 : (parseMethodDescriptor (aNm ν).desc).map (fun d => d.parameters.length) = some as.length := by
            revert w9
            rw [← el]
            cases parseMethodDescriptor (aNm ν).desc with
            | none => intro q; cases q
            | some dd =>
              intro q
              have q : dd.parameters.length + 1 = (pA a :: as).length := Option.some.inj q
              show some dd.parameters.length = some as.length
              rw [List.length_cons] at q
              congr 1
              omega
          have hW8 : (((rr.map (cv base kv)).map fun v => v.category).sum) ≤ 8 := by rw [cv_cats]; exact hcat
          have hR' : (aRoom ν).frames + 1 ≤ R.frames ∧ 8 + (aMx ν + 11) + (aRoom ν).locals ≤ R.locals := ⟨Nat.le_trans hrm.1 hRf, Nat.le_trans hrm.2 hRl⟩
          have hG : GoodIn wF (Cond.code (aNm ν) (aBy ν) (aMx ν) none :: wF) := wF_good (fun w hw => by
            rcases List.mem_cons.mp hw with rfl | hw
            · exact o1
            · exact hw)
          refine W_sz fun hle => ?_
          have hsz := h_sz hs hn0 h1 hP hle
          have hpre : ∀ U : State, U.heap = H → s0.WarmedH U.vm → aPc base kv cI cZ cG D xs nS (pA a :: as) h (Value.ref (base + a) :: as.map (cv base kv)).toArray U := fun U hU hW => by
            have := apre_ok (as := pA a :: as) hK hC hP hS hsz hU hW
            rw [List.map_cons, show cv base kv (pA a) = .ref (base + a) from cv_lo hlo] at this
            exact this
          have fin : ∀ (H1 : Heap) (locs1 : List Loc), va_P D vwCl (w1 base cI cZ cG h2) H1 → va_S (Ab base) s0.heap H1 locs1 → W p l e R s0 m args below meth c H1 locs1 (cells + aMc ν) (sl + aMs ν) (MQ below (aQc base cI cZ cG D hF) args s0 (aMc κ) (aMs κ) (Ab base)) (F0 m (pc + 3) ls (rr.map (cv base kv))) := fun H1 locs1 hP1 hS1 => hN _ _ _ _ _ g7 ls H1 locs1 (cells + aMc ν) (by omega) (by omega) (by omega) hl hP1 hS1
          rcases hlk with hlk | ⟨q1, q2, q3⟩
          · exact av_call (h' := h2) (a := (Value.ref (base + a) :: as.map (cv base kv)).toArray) (va_runI (As := as.map (cv base kv)) (rest := rr.map (cv base kv)) (n := as.length) (b := base + a) (Ts := wF) (own := cN (aCl κ)) (index := cp) (bytes := aBy ν) (maxL := aMx ν) ⟨hx, hb, hml, hown, hts⟩ hMet (cwI as.length hts hG rfl rfl rfl (hts _ o3) (hts _ hlk) (hts _ w8) (o9 g1.1) ⟨o5.1, o5.2, e9⟩ hR') ⟨aPc_blind, hpre⟩ rfl (by simp) hl.1 rfl (lv_room hW8) hd ⟨by omega, by omega⟩) hS (fun q h => h) fin
          · dsimp only at q2 q3
            subst q2; subst q3
            have hown' : s0.vm.findClass RX10 = some m.cls := by rw [q1] at hown; exact hown
            exact av_call (h' := h2) (a := (Value.ref (base + a) :: as.map (cv base kv)).toArray) (va_runIN (As := as.map (cv base kv)) (rest := rr.map (cv base kv)) (n := as.length) (b := base + a) (Ts := wF) (own := RX10) (host := "LandLines") (index := 18) (bytes := aBy 4) (maxL := aMx 4) ⟨hx, hb, hml, hown', hts⟩ hMet ⟨va_cnB as.length hts hG rfl rfl rfl hC.2.2 (hts _ o3) ⟨o5.1, o5.2, e9⟩ hR', o9 g1.1, hts _ w8⟩ ⟨aPc_blind, hpre⟩ rfl (by simp) hl.1 rfl (lv_room hW8) hd ⟨by omega, by omega⟩) hS (fun q h => h) fin
  case invokevirtual cp =>
    cases Nat.eq_of_beq_eq_true hn
    replace e0 : (match lk (alC (aCl κ)) cp with
      | some ν => ag (!(aIn ν) && !(aSa ν)) (ppA (aAr ν) st fun as r => (match as with
        | v :: _ => obK h v fun _ ci _ => ag (Nat.beq ci (aCl ν)) (callA nx cl κ ν n0 pc L sl h as r)
        | [] => none))
      | none => none) = some hF := e0
    cases hf : lk (alC (aCl κ)) cp with
    | none => rw [hf] at e0; cases e0
    | some ν =>
      rw [hf] at e0
      obtain ⟨g1, g2⟩ := ag_inv e0
      simp only [Bool.and_eq_true, Bool.not_eq_true'] at g1
      obtain ⟨as, rr, el, est, g3⟩ := ppA_inv g2
      clear e0 g2
      subst est
      cases as with
      | nil => cases g3
      | cons v as =>
        obtain ⟨a, ci, fs, rfl, ha, g4⟩ := obK_inv (show obK h v (fun _ ci _ => ag (Nat.beq ci (aCl ν)) (callA nx cl κ ν n0 pc L sl h (v :: as) rr)) = some hF from g3)
        clear g3
        obtain ⟨g8, g4⟩ := ag_inv g4
        obtain ⟨hrm, hcat, hslen, hroom, h2, g5, g6, g7⟩ := callA_inv g4
        obtain ⟨r1', r2', r3'⟩ := rmA_inv hroom
        obtain ⟨hν, hlk⟩ := alC_ok (aCl κ) hcl19 _ (lk_mem hf)
        obtain ⟨o1, o2, o3, o4, o5, o6, o7, o8, o9, o10⟩ := aI_ok ν hν
        obtain ⟨w8, w9⟩ := o8 g1.2
        have w10 := o10 g1.1 g1.2
        have hMet := hCl ν (pA a :: as) h h2 hν hslen h1 hNN g5
        have hlo : a < mNN := Nat.lt_of_lt_of_le (cell_lt ha) hNN
        have hlk : Cond.methodLink (cN (aCl κ)) cp (aNm ν) ∈ wF := by
          rcases hlk with hlk | ⟨-, -, e3⟩
          · exact hlk
          · exfalso
            have e3 : ν = 4 := e3
            rw [e3] at g1
            exact absurd g1.1 (by decide)
        have he := w1_at (base := base) (cI := cI) (cZ := cZ) (cG := cG) ha
        have eci : ci = aCl ν := Nat.eq_of_beq_eq_true g8
        have hcell : ∃ cell : Cell, H[base + a]? = some cell ∧ cell.vm.isStatics = false ∧ s0.vm.findClass (aNm ν).cls = some cell.cls := by
          obtain ⟨r0, hc0, -⟩ := id (hP _ _ he)
          have hc : vwCl[ci]? = some r0 := hc0
          have := va_recv hK hP hc he
          rw [o4, ← eci, ← vwCl_cN _ _ hc]
          exact this
        have hst : ((pA a :: as).reverse ++ rr).map (cv base kv) = (as.map (cv base kv)).reverse ++ Value.ref (base + a) :: rr.map (cv base kv) := by
          simp [List.map_reverse]
          exact cv_lo hlo
        rw [hst]
        have e9 : (parseMethodDescriptor (aNm ν).desc).map (fun d => d.parameters.length) = some as.length := by
          revert w9
          rw [← el]
          cases parseMethodDescriptor (aNm ν).desc with
          | none => intro q; cases q
          | some dd =>
            intro q
            have q : dd.parameters.length + 1 = (pA a :: as).length := Option.some.inj q
            show some dd.parameters.length = some as.length
            rw [List.length_cons] at q
            congr 1
            omega
        have hW8 : (((rr.map (cv base kv)).map fun v => v.category).sum) ≤ 8 := by rw [cv_cats]; exact hcat
        have hR' : (aRoom ν).frames + 1 ≤ R.frames ∧ 8 + (aMx ν + 11) + (aRoom ν).locals ≤ R.locals := ⟨Nat.le_trans hrm.1 hRf, Nat.le_trans hrm.2 hRl⟩
        refine W_sz fun hle => ?_
        have hsz := h_sz hs hn0 h1 hP hle
        refine av_call (h' := h2) (a := (Value.ref (base + a) :: as.map (cv base kv)).toArray) (va_runV (C := (aNm ν).cls) (As := as.map (cv base kv)) (rest := rr.map (cv base kv)) (n := as.length) (Ts := wF) (own := cN (aCl κ)) (index := cp) (bytes := aBy ν) (maxL := aMx ν) (ret := none) ⟨hx, hb, hml, hown, hts⟩ hMet (cwV as.length hts (wF_good (fun w hw => ?_)) rfl rfl rfl ⟨rfl, o5.1, o5.2, e9⟩ hR') ⟨aPc_blind, hcell, fun U hU hW => ?_⟩ rfl (by simp) hl.1 rfl (lv_room hW8) hd ⟨by omega, by omega⟩) hS (fun q h => h) (fun H1 locs1 hP1 hS1 => hN _ _ _ _ _ g7 ls H1 locs1 (cells + aMc ν) (by omega) (by omega) (by omega) hl hP1 hS1)
        · unfold wsV at hw
          simp only [List.cons_append, List.nil_append, List.mem_cons] at hw
          rcases hw with rfl | rfl | rfl | rfl | rfl | hw
          · exact hlk
          · exact w8
          · exact w10
          · exact o3
          · exact o1
          · exact hw
        · have := apre_ok (as := pA a :: as) hK hC hP hS hsz hU hW
          rw [List.map_cons, show cv base kv (pA a) = .ref (base + a) from cv_lo hlo] at this
          exact this
  case invokestatic cp =>
    cases Nat.eq_of_beq_eq_true hn
    replace e0 : (match lk (alC (aCl κ)) cp with
      | some ν => ag (aSa ν && !(aIn ν)) (ppA (aAr ν) st fun as r => callA nx cl κ ν n0 pc L sl h as r)
      | none => (match lk (acC (aCl κ)) cp with
        | some _ => (match (generalizing := false) st with
          | .inl (.int k) :: .inl (.int dp) :: vd :: .inl (.int sp) :: .inl (.ref q) :: r => (match cK q with
            | some f => arA h vd 0 fun d l => ag (Nat.ble 1 (aFr κ) && (Nat.ble (catS r + 18) (aLo κ) && (cpOK sp dp k f.length l.length && (decide (sp = 0) && (decide (dp = 0) && (Nat.beq k.toNatClampNeg l.length && Nat.beq f.length l.length)))))) (setK h d (.inr (.inl (0, f))) fun h' => nx (pc + 3) L r sl h')
            | none => none)
          | _ => none)
        | none => (match lk (mmC (aCl κ)) cp with
          | some 1 => i2 st fun x y r => ag (rmA κ n0 0 sl 0 h && (Nat.ble 1 (aFr κ) && Nat.ble (catS r + 13) (aLo κ))) (nx (pc + 3) L (pI (jMax x y) :: r) sl h)
          | _ => none))) = some hF := e0
    cases hf : lk (alC (aCl κ)) cp with
    | some ν =>
      rw [hf] at e0
      obtain ⟨g1, g2⟩ := ag_inv e0
      simp only [Bool.and_eq_true, Bool.not_eq_true'] at g1
      obtain ⟨as, rr, el, est, g4⟩ := ppA_inv g2
      clear e0 g2
      subst est
      obtain ⟨hrm, hcat, hslen, hroom, h2, g5, g6, g7⟩ := callA_inv g4
      obtain ⟨r1', r2', r3'⟩ := rmA_inv hroom
      obtain ⟨hν, hlk⟩ := alC_ok (aCl κ) hcl19 _ (lk_mem hf)
      obtain ⟨o1, o2, o3, o4, o5, o6, o7, o8, o9, o10⟩ := aI_ok ν hν
      obtain ⟨w8, w9⟩ := o7 g1.1
      have hMet := hCl ν as h h2 hν hslen h1 hNN g5
      have hlk : Cond.methodLink (cN (aCl κ)) cp (aNm ν) ∈ wF := by
        rcases hlk with hlk | ⟨-, -, e3⟩
        · exact hlk
        · exfalso
          have e3 : ν = 4 := e3
          rw [e3] at g1
          exact absurd g1.1 (by decide)
      have hst : (as.reverse ++ rr).map (cv base kv) = (as.map (cv base kv)).reverse ++ rr.map (cv base kv) := by
        simp [List.map_reverse]
      rw [hst]
      have e9 : (parseMethodDescriptor (aNm ν).desc).map (fun d => d.parameters.length) = some as.length := by rw [el]; exact w9
      have hW8 : (((rr.map (cv base kv)).map fun v => v.category).sum) ≤ 8 := by rw [cv_cats]; exact hcat
      have hR' : (aRoom ν).frames + 1 ≤ R.frames ∧ 8 + (aMx ν + 11) + (aRoom ν).locals ≤ R.locals := ⟨Nat.le_trans hrm.1 hRf, Nat.le_trans hrm.2 hRl⟩
      refine W_sz fun hle => ?_
      have hsz := h_sz hs hn0 h1 hP hle
      refine av_call (h' := h2) (a := (as.map (cv base kv)).toArray) (va_runS (As := as.map (cv base kv)) (rest := rr.map (cv base kv)) (n := as.length) (Ts := wF) (own := cN (aCl κ)) (index := cp) (bytes := aBy ν) (maxL := aMx ν) (ret := none) ⟨hx, hb, hml, hown, hts⟩ hMet (va_cwS as.length hts (wF_good (fun w hw => ?_)) rfl rfl rfl ⟨o5.1, o5.2, e9⟩ hR') ⟨aPc_blind, fun U hU hW => apre_ok hK hC hP hS hsz hU hW⟩ rfl (by simp) hl.1 rfl (lv_room hW8) hd ⟨by omega, by omega⟩) hS (fun q h => h) (fun H1 locs1 hP1 hS1 => hN _ _ _ _ _ g7 ls H1 locs1 (cells + aMc ν) (by omega) (by omega) (by omega) hl hP1 hS1)
      unfold va_wsS at hw
      simp only [List.cons_append, List.nil_append, List.mem_cons] at hw
      rcases hw with rfl | rfl | rfl | rfl | hw
      · exact hlk
      · exact w8
      · exact o3
      · exact o1
      · exact hw
    | none =>
      rw [hf] at e0
      dsimp only at e0
      cases hg : lk (acC (aCl κ)) cp with
      | some z =>
        rw [hg] at e0
        have hlk : acOK (aCl κ) (cp, z) := acC_ok (aCl κ) hcl19 _ (lk_mem hg)
        obtain ⟨ww1, ww2, ww3⟩ := acw
        dsimp only at e0
        split at e0
        next k dp vd sp q rr =>
          split at e0
          next f ef =>
            obtain ⟨d, l0, rfl, ha, e3⟩ := arA_inv e0
            obtain ⟨g1, g2⟩ := ag_inv e3
            simp only [cpOK, Bool.and_eq_true, Bool.not_eq_true', decide_eq_false_iff_not, decide_eq_true_eq] at g1
            obtain ⟨f1, f2, ⟨c1, c2, c3, c4, c5⟩, c6, c7, c8, c9⟩ := g1
            obtain ⟨hal, g4⟩ := setK_inv g2
            have f2' := Nat.le_of_ble_eq_true f2
            have k8 := Nat.eq_of_beq_eq_true c8
            have k9 := Nat.eq_of_beq_eq_true c9
            have he := w1_at (base := base) (cI := cI) (cZ := cZ) (cG := cG) ha
            have hlo : d < mNN := Nat.lt_of_lt_of_le hal hNN
            obtain ⟨tt, y1, y2⟩ := hC.1.2.1 q f ef
            rw [List.map_cons, List.map_cons, List.map_cons, List.map_cons, List.map_cons, show cv base kv (pA d) = .ref (base + d) from cv_lo hlo, show cv base kv (.inl (.ref q)) = .ref tt from by rw [show (Sum.inl (Value.ref q) : mV) = pA q from rfl, cv_hi (cK_ok ef), y1]; rfl]
            refine mv_copyt (D := D) hx hb hml' hown (hts _ hlk) (hts _ ww1) (hts _ ww2) (hts _ ww3) hK hP w1_D hS y2 d 0 he rfl c1 c2 c3 (Nat.le_of_ble_eq_true c4) (Nat.le_of_ble_eq_true c5) (Nat.le_trans (Nat.le_of_ble_eq_true f1) hRf) (by rw [cv_cats]; show catS rr + (7 + 11) ≤ _; omega) hd (fun H1 locs1 hP1 _ hS1 => ?_)
            refine hN _ _ _ _ _ g4 ls H1 locs1 cells (by rw [List.length_set]; exact hn0) (by rw [List.length_set]; exact h1) (by rw [List.length_set]; exact hNN) hl ?_ hS1
            rw [← w1_set hal]
            show va_P D vwCl ((w1 base cI cZ cG h).set d (base + d, .inl (cI, f.length, .inl (fun j => f.getD j 0)))) H1
            have ee : va_cpy (fun j => f.getD j 0) (fun j => l0.getD j 0) sp.toNatClampNeg dp.toNatClampNeg k.toNatClampNeg = fun j => f.getD j 0 := by
              subst c6; subst c7
              rw [k8, ← k9]
              funext j
              have e00 : (0 : Int32).toNatClampNeg = 0 := rfl
              by_cases hj : j < f.length
              · simp [va_cpy, e00, hj]
              · have q1 : f.getD j 0 = 0 := by rw [List.getD_eq_getElem?_getD, List.getElem?_eq_none (by omega)]; rfl
                have q2 : l0.getD j 0 = 0 := by rw [List.getD_eq_getElem?_getD, List.getElem?_eq_none (by omega)]; rfl
                simp only [va_cpy, e00, q1, q2]
                simp
                try omega
            rw [ee] at hP1
            rw [k9]
            exact hP1
          next => cases e0
        next => cases e0
      | none =>
        rw [hg] at e0
        dsimp only at e0
        split at e0
        next hm =>
          have hlk : mmOK (aCl κ) (cp, 1) := mmC_ok (aCl κ) hcl19 _ (lk_mem hm)
          obtain ⟨x, y, t, rfl, e1⟩ := i2_inv e0
          obtain ⟨g1, g2⟩ := ag_inv e1
          simp only [Bool.and_eq_true] at g1
          obtain ⟨r1', r2', r3'⟩ := rmA_inv g1.1
          have f1' := Nat.le_of_ble_eq_true g1.2.1
          have f2' := Nat.le_of_ble_eq_true g1.2.2
          have k := hN _ _ _ _ _ g2 ls H locs cells hn0 h1 hNN hl hP hS
          exact va_mmax hx hb hml' hown (hts _ hlk) (hts _ mmw1.1) (hts _ mmw1.2.1) (hts _ mmw1.2.2) (Nat.le_trans f1' hRf) (by rw [cv_cats]; omega) (by omega) (by omega) hd k
        next => cases e0
  all_goals exact nomatch (show (none : aO) = some _ from e0)
end ASTEP
