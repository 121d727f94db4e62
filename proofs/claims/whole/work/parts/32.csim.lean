/-! THE CONSTRUCTORS' MACHINE: what it comes to, the bytecode comes to -/
section AINV
variable {q : aH}
theorem ag_inv {b : Bool} {x : aO} (h : ag b x = some q) : b = true ∧ x = some q := by
  cases b
  · cases h
  · exact ⟨rfl, h⟩
theorem setK_inv {α : Type} : ∀ {l : List α} {i : Nat} {c : α} {k : List α → aO}, setK l i c k = some q → i < l.length ∧ k (l.set i c) = some q := by
  intro l
  induction l with
  | nil => intro i c k h; cases h
  | cons x t ih =>
    intro i c k h
    cases i with
    | zero => exact ⟨Nat.zero_lt_succ _, h⟩
    | succ i =>
      obtain ⟨h1, h2⟩ := ih (k := fun t' => k (x :: t')) h
      exact ⟨Nat.succ_lt_succ h1, h2⟩
theorem appK_eq {α : Type} : ∀ {a b : List α} {k : List α → aO}, appK a b k = k (a ++ b) := by
  intro a
  induction a with
  | nil => intro b k; rfl
  | cons x t ih => intro b k; exact ih (k := fun t' => k (x :: t'))
theorem repK_eq {α : Type} {c : α} : ∀ {n : Nat} {k : List α → aO}, repK c n k = k (List.replicate n c) := by
  intro n
  induction n with
  | zero => intro k; rfl
  | succ n ih => intro k; exact ih (k := fun t => k (c :: t))
theorem obK_inv {h : aH} {v : mV} {k : Nat → Nat → List aF → aO} (e : obK h v k = some q) : ∃ a ci fs, v = pA a ∧ h[a]? = some (.inl (ci, fs)) ∧ k a ci fs = some q := by
  unfold obK at e
  split at e
  next a =>
    split at e
    next ci fs e1 => exact ⟨a, ci, fs, rfl, e1, e⟩
    next => cases e
  next => cases e
theorem arA_inv {h : aH} {v : mV} {t : Nat} {k : Nat → List Int32 → aO} (e : arA h v t k = some q) : ∃ a l, v = pA a ∧ h[a]? = some (.inr (.inl (t, l))) ∧ k a l = some q := by
  unfold arA at e
  split at e
  next a =>
    split at e
    next t' l e1 =>
      obtain ⟨h1, h2⟩ := ag_inv e
      exact ⟨a, l, rfl, by rw [e1, Nat.eq_of_beq_eq_true h1], h2⟩
    next => cases e
  next => cases e
theorem jtA_inv {pc : Nat} {o : Int} {k : Nat → aO} (h : jtA pc o k = some q) : ∃ t : Nat, (pc : Int) + o = (t : Int) ∧ k t = some q := by
  unfold jtA at h
  split at h
  next t e => exact ⟨t, e, h⟩
  next => cases h
theorem i1_inv {st : List mV} {k : Int32 → List mV → aO} (h : i1 st k = some q) : ∃ x r, st = pI x :: r ∧ k x r = some q := by
  unfold i1 at h
  split at h
  next x r => exact ⟨x, r, rfl, h⟩
  next => cases h
theorem i2_inv {st : List mV} {k : Int32 → Int32 → List mV → aO} (h : i2 st k = some q) : ∃ x y r, st = pI y :: pI x :: r ∧ k x y r = some q := by
  unfold i2 at h
  split at h
  next y x r => exact ⟨x, y, r, rfl, h⟩
  next => cases h
theorem p1_inv {st : List mV} {k : mV → List mV → aO} (h : p1 st k = some q) : ∃ v r, st = v :: r ∧ k v r = some q := by
  unfold p1 at h
  split at h
  next v r => exact ⟨v, r, rfl, h⟩
  next => cases h
theorem iteA_inv {c : Prop} [Decidable c] {a b : aO} (h : (if c then a else b) = some q) : (c → a = some q) ∧ (¬ c → b = some q) := ⟨fun hc => by rw [if_pos hc] at h; exact h, fun hc => by rw [if_neg hc] at h; exact h⟩
theorem ppA_inv : ∀ {n : Nat} {st : List mV} {k : List mV → List mV → aO}, ppA n st k = some q → ∃ as r, as.length = n ∧ st = as.reverse ++ r ∧ k as r = some q := by
  intro n
  induction n with
  | zero => intro st k h; exact ⟨[], st, rfl, rfl, h⟩
  | succ n ih =>
    intro st k h
    cases st with
    | nil => cases h
    | cons v st =>
      obtain ⟨as, r, h1, h2, h3⟩ := ih (k := fun as r => k (as ++ [v]) r) h
      exact ⟨as ++ [v], r, by simp [h1], by simp [h2], h3⟩
theorem rmA_inv {κ n0 c sl n : Nat} {h : aH} (e : rmA κ n0 c sl n h = true) : h.length + c ≤ n0 + aMc κ ∧ sl + n ≤ aMs κ ∧ h.length + c ≤ mNN := by
  simp only [rmA, Bool.and_eq_true] at e
  exact ⟨Nat.le_of_ble_eq_true e.1, Nat.le_of_ble_eq_true e.2.1, Nat.le_of_ble_eq_true e.2.2⟩
theorem callA_inv {nx : Nat → mL → List mV → Nat → aH → aO} {cl : Nat → mL → aH → aO} {κ ν n0 pc : Nat} {L : mL} {sl : Nat} {h : aH} {as r : List mV} (e : callA nx cl κ ν n0 pc L sl h as r = some q) :
    (aFr ν + 1 ≤ aFr κ ∧ 8 + (aMx ν + 11) + aLo ν ≤ aLo κ) ∧ catS r ≤ 8 ∧ (slL as).length ≤ aMx ν ∧ rmA κ n0 (aMc ν) sl (aMs ν) h = true ∧ ∃ h1, cl ν (argL (aMx ν) as) h = some h1 ∧ h1.length = h.length + aMc ν ∧ nx (pc + 3) L r (sl + aMs ν) h1 = some q := by
  obtain ⟨e1, e2⟩ := ag_inv e
  simp only [Bool.and_eq_true] at e1
  refine ⟨⟨Nat.le_of_ble_eq_true e1.1.1, Nat.le_of_ble_eq_true e1.1.2⟩, Nat.le_of_ble_eq_true e1.2.1.1, Nat.le_of_ble_eq_true e1.2.1.2, e1.2.2, ?_⟩
  split at e2
  next h1 e3 =>
    obtain ⟨e4, e5⟩ := ag_inv e2
    exact ⟨h1, e3, Nat.eq_of_beq_eq_true e4, e5⟩
  next => cases e2
end AINV
/-! the world -/
def av (base : Nat) (f : aF) : Value := match f with
  | .inl none => .null
  | .inl (some b) => .ref (base + b)
  | .inr x => .int x
def aE (base : Nat) (cI cZ cG : ClassId) (c : aC) : va_E := match c with
  | .inl (ci, fs) => .inr (ci, fs.map (av base))
  | .inr (.inl (t, l)) => .inl (cond (Nat.beq t 0) cI cZ, l.length, .inl (fun j => l.getD j 0))
  | .inr (.inr (n, g)) => .inl (cG, n, .inr (.inr (.inr (.inr fun j => if j < n then some (base + (g + j)) else none))))
def w1 (base : Nat) (cI cZ cG : ClassId) (h : aH) : va_W := h.mapIdx fun i c => (base + i, aE base cI cZ cG c)
section AW
variable {base : Nat} {cI cZ cG : ClassId} {h : aH} {a : Nat} {c : aC}
theorem w1_get {i : Nat} : (w1 base cI cZ cG h)[i]? = (h[i]?).map fun c => (base + i, aE base cI cZ cG c) := by
  unfold w1
  rw [List.getElem?_mapIdx]
theorem w1_at (e : h[a]? = some c) : (w1 base cI cZ cG h)[a]? = some (base + a, aE base cI cZ cG c) := by rw [w1_get, e]; rfl
theorem w1_len : (w1 base cI cZ cG h).length = h.length := by unfold w1; simp
theorem w1_set (e : a < h.length) : (w1 base cI cZ cG h).set a (base + a, aE base cI cZ cG c) = w1 base cI cZ cG (h.set a c) := by
  apply List.ext_getElem?
  intro i
  by_cases hi : i = a
  · subst hi
    rw [List.getElem?_set_self (by rw [w1_len]; exact e), w1_get, List.getElem?_set_self e]
    rfl
  · rw [List.getElem?_set_ne (fun q => hi q.symm), w1_get, w1_get, List.getElem?_set_ne (fun q => hi q.symm)]
theorem w1_app : w1 base cI cZ cG h ++ [(base + h.length, aE base cI cZ cG c)] = w1 base cI cZ cG (h ++ [c]) := by
  apply List.ext_getElem?
  intro i
  rw [w1_get]
  by_cases hi : i < h.length
  · rw [List.getElem?_append_left (by rw [w1_len]; exact hi), List.getElem?_append_left hi, w1_get]
  · rw [List.getElem?_append_right (by rw [w1_len]; omega), List.getElem?_append_right (by omega), w1_len]
    by_cases hj : i - h.length = 0
    · rw [hj]
      show some _ = some _
      rw [show base + h.length = base + i by omega]
    · rw [List.getElem?_eq_none (by simp; omega), List.getElem?_eq_none (by simp; omega)]
      rfl
theorem w1_D : va_D (Ab base) (w1 base cI cZ cG h) := by
  have key : ∀ {i : Nat} {x : Nat × va_E}, (w1 base cI cZ cG h)[i]? = some x → x.1 = base + i := by
    intro i x hx
    rw [w1_get] at hx
    cases hz : h[i]? with
    | none => rw [hz] at hx; cases hx
    | some z => rw [hz] at hx; cases hx; rfl
  refine ⟨fun i j x y hi hj e => ?_, fun k x hx => ?_⟩
  · rw [key hi, key hj] at e
    omega
  · rw [key hx]
    exact Nat.le_add_right _ _
theorem upd_set {l : List Int32} {i : Nat} {x : Int32} (hi : i < l.length) : upd (fun j => l.getD j 0) i x = fun j => (l.set i x).getD j 0 := by
  funext j
  by_cases e : j = i
  · subst e
    simp [upd, List.getD_eq_getElem?_getD, List.getElem?_set_self hi]
  · simp [upd, e, List.getD_eq_getElem?_getD, List.getElem?_set_ne (fun q => e q.symm)]
theorem rep_get {n j : Nat} : (List.replicate n (0 : Int32)).getD j 0 = 0 := by
  rw [List.getD_eq_getElem?_getD]
  cases h : (List.replicate n (0 : Int32))[j]? with
  | none => rfl
  | some z => exact List.eq_of_mem_replicate (List.mem_of_getElem? h)
theorem rt_ok {t : FieldType} {b : Nat} (e : isRT t = true) : narrow t (.ref b) = .ref b ∧ fits t (.ref b) = true := by
  cases t <;> first | exact ⟨rfl, rfl⟩ | cases e
end AW
def aOv (U : State) : Prop := (Cond.arrayOver (.array .int)).before #[] U = true
theorem aOv.moved {u U : State} (hv : u.vm.Alike U.vm) (h : aOv u) : aOv U := Jvm.Stand.arrayOver_alikeB hv h
def aNw (U : State) : Prop := va_Nw (.methodLinkNest RX10 18 yX4_init "LandLines") U
def CC (base : Nat) (kv : Nat → Option Nat) (xs : Nat → Int32) (nS : Nat) (U : State) (H : Heap) : Prop := KC base kv xs nS U H ∧ aOv U ∧ aNw U
def aRoom (ν : Nat) : Room := { frames := aFr ν, cells := aMc ν, slots := aMs ν, locals := aLo ν }
def aPc (base : Nat) (kv : Nat → Option Nat) (cI cZ cG : ClassId) (D : va_G) (xs : Nat → Int32) (nS : Nat) (as : List mV) (h : aH) : Array Value → State → Prop := va_Pc (as.map (cv base kv)) (fun U => va_P D vwCl (w1 base cI cZ cG h) U.heap ∧ va_K D vwCl (tyL cI cZ cG) U ∧ CC base kv xs nS U U.heap ∧ U.heap.size = base + h.length)
def aQc (base : Nat) (cI cZ cG : ClassId) (D : va_G) (h' : aH) : Array Value → State → Outcome → State → Prop := fun _ st oc t => (oc = .returned none ∧ va_P D vwCl (w1 base cI cZ cG h') t.heap) ∧ va_F (Ab base) st t
theorem aPc_blind {base : Nat} {kv : Nat → Option Nat} {cI cZ cG : ClassId} {D : va_G} {xs : Nat → Int32} {nS : Nat} {as : List mV} {h : aH} : FrameBlind (aPc base kv cI cZ cG D xs nS as h) := fun a U g mk e => ⟨e.1, e.2.1, va_K.moved (u := U) (U := U.calling g mk a) (Vm.Alike.refl U.vm) e.2.2.1, ⟨KC_same (u := U) (U := U.calling g mk a) rfl e.2.2.2.1.1, aOv.moved (u := U) (U := U.calling g mk a) (Vm.Alike.refl U.vm) e.2.2.2.1.2.1, va_Nw.same (u := U) (U := U.calling g mk a) rfl rfl e.2.2.2.1.2.2⟩, e.2.2.2.2⟩
def aMt (l : Launch) (D : va_G) (base : Nat) (kv : Nat → Option Nat) (cI cZ cG : ClassId) (xs : Nat → Int32) (nS : Nat) (ν : Nat) (as : List mV) (h h' : aH) : Prop :=
  Met l (aNm ν) (Cond.code (aNm ν) (aBy ν) (aMx ν) none :: wF) (aRoom ν) (aPc base kv cI cZ cG D xs nS as h) (aQc base cI cZ cG D h') (aMc ν) (aMs ν) (Ab base)
section ASIM
variable {p : Program} {l : Launch} {e : Env} {R : Room} {s0 : State} {m : MethodId} {args : Array Value} {below : List Frame} {meth : Method} {c : Code} {H : Heap} {locs : List Loc} {cells slots : Nat} {Q : State → Prop} {D : va_G} {base : Nat} {kv : Nat → Option Nat} {cI cZ cG : ClassId} {xs : Nat → Int32} {nS : Nat}
theorem W_sz {g : JFrame} (k : H.size ≤ s0.heap.size + cells → W p l e R s0 m args below meth c H locs cells slots Q g) : W p l e R s0 m args below meth c H locs cells slots Q g := fun T hT X => k (by rw [← hT]; exact X.same.2.2.1) T hT X
theorem av_call {pc : Nat} {ls : Array Slot} {st0 rest : List Value} {a : Array Value} {h' : aH} {mc ms : Nat} {free : Addr → Prop} (hr : va_Run p l e R s0 m args below meth c H locs cells slots mc ms (F0 m pc ls st0) rest (aQc base cI cZ cG D h' a) free) (hS : va_S (Ab base) s0.heap H locs) (hf : ∀ q, free q → Ab base q)
    (kk : ∀ (H1 : Heap) (locs1 : List Loc), va_P D vwCl (w1 base cI cZ cG h') H1 → va_S (Ab base) s0.heap H1 locs1 → W p l e R s0 m args below meth c H1 locs1 (cells + mc) (slots + ms) Q (F0 m (pc + 3) ls rest)) : W p l e R s0 m args below meth c H locs cells slots Q (F0 m pc ls st0) := by
  intro T hT X
  obtain ⟨v, st₀, t, T', L, h0, X', hL, e1, e2, ⟨⟨hv, hP⟩, hz, hk⟩, st⟩ := hr T hT X
  cases hv
  rw [h0] at hz hk
  obtain ⟨t2, a1, b1⟩ := kk T'.heap (locs ++ L) (by rw [e1]; exact hP)
    ⟨Nat.le_trans hS.1 (by rw [e1]; exact hz), fun q h1 h2 => by rw [e1, hk q (Nat.lt_of_lt_of_le h1 hS.1) h2]; exact hS.2.1 q h1 h2, fun q hq => by
      rcases List.mem_append.mp hq with h | h
      · exact hS.2.2 q h
      · exact hf _ (hL q h)⟩ T' rfl X'
  exact ⟨t2, st t2 a1, b1⟩
/-- at a place of a constructor -/
def aG (p : Program) (l : Launch) (e : Env) (R : Room) (s0 : State) (m : MethodId) (args : Array Value) (below : List Frame) (meth : Method) (c : Code) (Q : State → Prop) (D : va_G) (base : Nat) (kv : Nat → Option Nat) (cI cZ cG : ClassId) (nL n0 : Nat) (pc : Nat) (L : mL) (st : List mV) (sl : Nat) (h : aH) : Prop :=
  ∀ (ls : Array Slot) (H : Heap) (locs : List Loc) (cells : Nat), n0 + cells = h.length → 1 ≤ h.length → h.length ≤ mNN → LR base kv ls nL L → va_P D vwCl (w1 base cI cZ cG h) H → va_S (Ab base) s0.heap H locs → W p l e R s0 m args below meth c H locs cells sl Q (F0 m pc ls (st.map (cv base kv)))
def aCx (p : Program) (R : Room) (s0 : State) (m : MethodId) (args : Array Value) (meth : Method) (c : Code) (D : va_G) (base : Nat) (kv : Nat → Option Nat) (cI cZ cG : ClassId) (xs : Nat → Int32) (nS κ n0 : Nat) : Prop :=
  p.tables.exec = Jvm.exec ∧ c.code = aBy κ ∧ c.maxLocals = aMx κ ∧ κ < 15 ∧ s0.vm.findClass (cN (aCl κ)) = some m.cls ∧ (∀ w ∈ wF, w.before args s0 = true) ∧ va_K D vwCl (tyL cI cZ cG) s0 ∧ CC base kv xs nS s0 s0.heap ∧ s0.heap.size = base + n0 ∧ (aIn κ = true → meth.name = "<init>") ∧ aFr κ ≤ R.frames ∧ aLo κ ≤ R.locals ∧ aMc κ ≤ R.cells ∧ aMs κ ≤ R.slots
theorem h_sz {n0 cells : Nat} {h : aH} (hs : s0.heap.size = base + n0) (hn : n0 + cells = h.length) (h1 : 1 ≤ h.length) (hP : va_P D vwCl (w1 base cI cZ cG h) H) (hle : H.size ≤ s0.heap.size + cells) : H.size = base + h.length := by
  obtain ⟨z, hz⟩ : ∃ z, h[h.length - 1]? = some z := ⟨h[h.length - 1], List.getElem?_eq_getElem (by omega)⟩
  have := (hP _ _ (w1_at hz)).lt
  have this : base + (h.length - 1) < H.size := this
  omega
theorem ce_int {cA : ClassId} (hK : va_K D vwCl (tyL cI cZ cG) s0) (hA : va_RA s0 cA .int) : cA = cI := by
  have h1 := (hK.2 0 (cI, .int) rfl).2
  exact Option.some.inj ((show s0.vm.findClass _ = some cA from hA).symm.trans (show s0.vm.findClass _ = some cI from h1))
theorem ce_bool {cA : ClassId} (hK : va_K D vwCl (tyL cI cZ cG) s0) (hA : va_RA s0 cA .boolean) : cA = cZ := by
  have h1 := (hK.2 1 (cZ, .boolean) rfl).2
  exact Option.some.inj ((show s0.vm.findClass _ = some cA from hA).symm.trans (show s0.vm.findClass _ = some cZ from h1))
theorem apre_ok {U : State} {as : List mV} {h : aH} (hK : va_K D vwCl (tyL cI cZ cG) s0) (hC : CC base kv xs nS s0 s0.heap) (hP : va_P D vwCl (w1 base cI cZ cG h) H) (hS : va_S (Ab base) s0.heap H locs) (hsz : H.size = base + h.length) (hU : U.heap = H) (hW : s0.WarmedH U.vm) : aPc base kv cI cZ cG D xs nS as h (as.map (cv base kv)).toArray U :=
  ⟨rfl, by rw [hU]; exact hP, va_K.moved hW.alike hK, ⟨by rw [hU]; exact KC_warm hW (KC_kept hC.1 hS.2.1), aOv.moved hW.alike hC.2.1, va_Nw.warmM hW hC.2.2⟩, by rw [hU]; exact hsz⟩
end ASIM
