/-! THE SIMULATION: what the abstract machine comes to, the bytecode comes to -/
section INV
variable {q : mR}
theorem gd_inv {b : Bool} {x : mO} (h : gd b x = some q) : b = true ∧ x = some q := by
  cases b
  · cases h
  · exact ⟨rfl, h⟩
theorem k1_inv {st : List mV} {k : Int32 → List mV → mO} (h : k1 st k = some q) : ∃ x r, st = pI x :: r ∧ k x r = some q := by
  unfold k1 at h
  split at h
  next x r => exact ⟨x, r, rfl, h⟩
  next => cases h
theorem k2_inv {st : List mV} {k : Int32 → Int32 → List mV → mO} (h : k2 st k = some q) : ∃ x y r, st = pI y :: pI x :: r ∧ k x y r = some q := by
  unfold k2 at h
  split at h
  next y x r => exact ⟨x, y, r, rfl, h⟩
  next => cases h
theorem j1_inv {st : List mV} {k : Int64 → List mV → mO} (h : j1 st k = some q) : ∃ x r, st = pJ x :: r ∧ k x r = some q := by
  unfold j1 at h
  split at h
  next x r => exact ⟨x, r, rfl, h⟩
  next => cases h
theorem j2_inv {st : List mV} {k : Int64 → Int64 → List mV → mO} (h : j2 st k = some q) : ∃ x y r, st = pJ y :: pJ x :: r ∧ k x y r = some q := by
  unfold j2 at h
  split at h
  next y x r => exact ⟨x, y, r, rfl, h⟩
  next => cases h
theorem ji_inv {st : List mV} {k : Int64 → Int32 → List mV → mO} (h : ji st k = some q) : ∃ x y r, st = pI y :: pJ x :: r ∧ k x y r = some q := by
  unfold ji at h
  split at h
  next y x r => exact ⟨x, y, r, rfl, h⟩
  next => cases h
theorem ldI_inv {L : mL} {i : Nat} {k : Int32 → mO} (h : ldI L i k = some q) : ∃ x, L.getD i none = some (pI x) ∧ k x = some q := by
  unfold ldI at h
  split at h
  next x e => exact ⟨x, e, h⟩
  next => cases h
theorem ldJ_inv {L : mL} {i : Nat} {k : Int64 → mO} (h : ldJ L i k = some q) : ∃ x, L.getD i none = some (pJ x) ∧ k x = some q := by
  unfold ldJ at h
  split at h
  next x e => exact ⟨x, e, h⟩
  next => cases h
def isRf (v : mV) : Prop := (∃ a, v = pA a) ∨ ∃ g, v = .inr g
theorem cv_isRf {base : Nat} {kv : Nat → Option Nat} {v : mV} (h : isRf v) : cv base kv v = .null ∨ ∃ z, cv base kv v = .ref z := by
  rcases h with ⟨a, rfl⟩ | ⟨⟨g, r⟩, rfl⟩
  · exact cv_rf base kv a
  · exact Or.inr ⟨_, rfl⟩
theorem ldA_inv {L : mL} {i : Nat} {k : mV → mO} (h : ldA L i k = some q) : ∃ v, L.getD i none = some v ∧ isRf v ∧ k v = some q := by
  unfold ldA at h
  split at h
  next a e => exact ⟨_, e, Or.inl ⟨a, rfl⟩, h⟩
  next g e => exact ⟨_, e, Or.inr ⟨g, rfl⟩, h⟩
  next => cases h
theorem popA_inv {st : List mV} {k : mV → List mV → mO} (h : popA st k = some q) : ∃ v r, st = v :: r ∧ isRf v ∧ k v r = some q := by
  unfold popA at h
  split at h
  next a r => exact ⟨_, r, rfl, Or.inl ⟨a, rfl⟩, h⟩
  next g r => exact ⟨_, r, rfl, Or.inr ⟨g, rfl⟩, h⟩
  next => cases h
theorem jtK_inv {pc : Nat} {o : Int} {k : Nat → mO} (h : jtK pc o k = some q) : ∃ t : Nat, (pc : Int) + o = (t : Int) ∧ k t = some q := by
  unfold jtK at h
  split at h
  next t e => exact ⟨t, e, h⟩
  next => cases h
theorem ite_inv {c : Prop} [Decidable c] {a b : mO} (h : (if c then a else b) = some q) : (c → a = some q) ∧ (¬ c → b = some q) := ⟨fun hc => by rw [if_pos hc] at h; exact h, fun hc => by rw [if_neg hc] at h; exact h⟩
theorem ppN_inv : ∀ {n : Nat} {st : List mV} {k : List mV → List mV → mO}, ppN n st k = some q → ∃ as r, as.length = n ∧ st = as.reverse ++ r ∧ k as r = some q := by
  intro n
  induction n with
  | zero => intro st k h; exact ⟨[], st, rfl, rfl, h⟩
  | succ n ih =>
    intro st k h
    cases st with
    | nil => cases h
    | cons v st =>
      obtain ⟨as, r, h1, h2, h3⟩ := ih (k := fun as r => k (as ++ [v]) r) h
      exact ⟨as ++ [v], r, by simp [h1], by simp [h2], h3⟩
theorem arK_inv (base : Nat) (kv : Nat → Option Nat) {v : mV} {k : Nat → Nat → mO} (h : arK v k = some q) : ∃ a n, iK a = some n ∧ cv base kv v = .ref (base + a) ∧ k a n = some q := by
  unfold arK at h
  split at h
  next a =>
    split at h
    next n e => exact ⟨a, n, e, cv_lo (iK_lt e), h⟩
    next => cases h
  next g r =>
    split at h
    next z e =>
      obtain ⟨h1, h2⟩ := gd_inv h
      obtain ⟨-, -, -, g1, g2⟩ := gK_ok e
      refine ⟨z.2.2 + r, z.2.1, ?_, ?_, h2⟩
      · rw [g1]; exact g2 r (blt_lt h1)
      · rw [g1]; rfl
    next => cases h
  next => cases h
theorem srK_inv (base : Nat) (kv : Nat → Option Nat) {v : mV} {s : mSt} {k : (Nat → Int32) → Nat → mO} (h : srK v s k = some q) : (∃ a n, iK a = some n ∧ cv base kv v = .ref (base + a) ∧ k (s a) n = some q) ∨ (∃ a l, cK a = some l ∧ v = pA a ∧ k (fun j => l.getD j 0) l.length = some q) ∨ (v = pA idScr ∧ k (s idScr) (s idLen 0).toNatClampNeg = some q) := by
  unfold srK at h
  split at h
  next a =>
    split at h
    next n e => exact Or.inl ⟨a, n, e, cv_lo (iK_lt e), h⟩
    next =>
      split at h
      next l e => exact Or.inr (Or.inl ⟨a, l, e, rfl, h⟩)
      next =>
        obtain ⟨h1, h2⟩ := gd_inv h
        exact Or.inr (Or.inr ⟨by rw [Nat.eq_of_beq_eq_true h1], h2⟩)
  next g r =>
    split at h
    next z e =>
      obtain ⟨h1, h2⟩ := gd_inv h
      obtain ⟨-, -, -, g1, g2⟩ := gK_ok e
      refine Or.inl ⟨z.2.2 + r, z.2.1, ?_, ?_, h2⟩
      · rw [g1]; exact g2 r (blt_lt h1)
      · rw [g1]; rfl
    next => cases h
  next => cases h
theorem crK_inv (base : Nat) (kv : Nat → Option Nat) {v : mV} {s : mSt} {k : (Nat → Int32) → Nat → mO} (h : crK v s k = some q) : (∃ a n, iK a = some n ∧ cv base kv v = .ref (base + a) ∧ k (s a) n = some q) ∨ (∃ a l, cK a = some l ∧ v = pA a ∧ k (fun j => l.getD j 0) l.length = some q) := by
  unfold crK at h
  split at h
  next a =>
    split at h
    next n e => exact Or.inl ⟨a, n, e, cv_lo (iK_lt e), h⟩
    next =>
      split at h
      next l e => exact Or.inr ⟨a, l, e, rfl, h⟩
      next => cases h
  next g r =>
    split at h
    next z e =>
      obtain ⟨h1, h2⟩ := gd_inv h
      obtain ⟨-, -, -, g1, g2⟩ := gK_ok e
      refine Or.inl ⟨z.2.2 + r, z.2.1, ?_, ?_, h2⟩
      · rw [g1]; exact g2 r (blt_lt h1)
      · rw [g1]; rfl
    next => cases h
  next => cases h
theorem lenK_inv (base : Nat) (kv : Nat → Option Nat) {v : mV} {s : mSt} {k : Int32 → mO} (h : lenK v s k = some q) : (∃ a n, iK a = some n ∧ cv base kv v = .ref (base + a) ∧ k (Int32.ofNat n) = some q) ∨ (∃ a i, bK a = some i ∧ v = pA a ∧ k (Int32.ofNat (bLen i)) = some q) ∨ (v = pA idScr ∧ k (Int32.ofNat (s idLen 0).toNatClampNeg) = some q) := by
  unfold lenK at h
  split at h
  next a =>
    split at h
    next n e => exact Or.inl ⟨a, n, e, cv_lo (iK_lt e), h⟩
    next =>
      split at h
      next l e => exact Or.inr (Or.inl ⟨a, l, e, rfl, h⟩)
      next =>
        obtain ⟨h1, h2⟩ := gd_inv h
        exact Or.inr (Or.inr ⟨by rw [Nat.eq_of_beq_eq_true h1], h2⟩)
  next g r =>
    split at h
    next z e =>
      obtain ⟨h1, h2⟩ := gd_inv h
      obtain ⟨-, -, -, g1, g2⟩ := gK_ok e
      refine Or.inl ⟨z.2.2 + r, z.2.1, ?_, ?_, h2⟩
      · rw [g1]; exact g2 r (blt_lt h1)
      · rw [g1]; rfl
    next => cases h
  next => cases h
theorem callK_inv {nx : Nat → mL → List mV → mSt → mO} {cl : Nat → mL → mSt → mO} {μ ν pc : Nat} {L : mL} {s : mSt} {as r : List mV} (h : callK nx cl μ ν pc L s as r = some q) : (mFr ν + 1 ≤ mFr μ ∧ 8 + (mMx ν + 11) + mLo ν ≤ mLo μ) ∧ catS r ≤ 8 ∧ (slL as).length ≤ mMx ν ∧ ∃ r1 s1, cl ν (argL (mMx ν) as) s = some (r1, s1) ∧ nx (pc + 3) L (r1.toList ++ r) s1 = some q := by
  obtain ⟨h1, h2⟩ := gd_inv h
  simp only [rmOK, Bool.and_eq_true] at h1
  refine ⟨⟨Nat.le_of_ble_eq_true h1.1.1, Nat.le_of_ble_eq_true h1.1.2⟩, Nat.le_of_ble_eq_true h1.2.1, Nat.le_of_ble_eq_true h1.2.2, ?_⟩
  have kI : ∀ {o : mO}, bI o (fun v s' => nx (pc + 3) L (pI v :: r) s') = some q → ∃ r1 s1, o = some (r1, s1) ∧ nx (pc + 3) L (r1.toList ++ r) s1 = some q := by
    intro o h
    unfold bI at h
    split at h
    next v s1 => exact ⟨_, s1, rfl, h⟩
    next => cases h
  unfold rtK at h2
  split at h2
  · unfold bV at h2
    split at h2
    next s1 e => exact ⟨_, s1, e, h2⟩
    next => cases h2
  · exact kI h2
  · exact kI h2
  · exact kI h2
  · exact kI h2
  · unfold bA at h2
    split at h2
    next a s1 e => exact ⟨_, s1, e, h2⟩
    next => cases h2
  · cases h2
end INV
def mRoom (ν : Nat) : Room := { frames := mFr ν, cells := 0, slots := 0, locals := mLo ν }
def mPc (base : Nat) (kv : Nat → Option Nat) (cI cZ cG : ClassId) (D : va_G) (xs : Nat → Int32) (nS : Nat) (as : List mV) (s : mSt) : Array Value → State → Prop := va_Pc (as.map (cv base kv)) (fun U => va_P D vwCl (wl base cI cZ cG s) U.heap ∧ va_K D vwCl (tyL cI cZ cG) U ∧ KC base kv xs nS U U.heap)
def mQc (base : Nat) (kv : Nat → Option Nat) (cI cZ cG : ClassId) (D : va_G) (r : Option mV) (s' : mSt) : Array Value → State → Outcome → State → Prop := fun _ st oc t => (oc = .returned (r.map (cv base kv)) ∧ va_P D vwCl (wl base cI cZ cG s') t.heap) ∧ va_F (Ab base) st t
theorem wl_D {base : Nat} {cI cZ cG : ClassId} {s : mSt} : va_D (Ab base) (wl base cI cZ cG s) := by
  refine ⟨fun i j x y hi hj e => ?_, fun k x hx => ?_⟩
  · have h1 := (wl_inv hi).2
    have h2 := (wl_inv hj).2
    rw [h1, h2] at e
    have : base + i = base + j := e
    omega
  · rw [(wl_inv hx).2]
    exact Nat.le_add_right _ _
theorem mPc_blind {base : Nat} {kv : Nat → Option Nat} {cI cZ cG : ClassId} {D : va_G} {xs : Nat → Int32} {nS : Nat} {as : List mV} {s : mSt} : FrameBlind (mPc base kv cI cZ cG D xs nS as s) := fun a U g mk h => ⟨h.1, h.2.1, va_K.moved (u := U) (U := U.calling g mk a) (Vm.Alike.refl U.vm) h.2.2.1, KC_same (u := U) (U := U.calling g mk a) rfl h.2.2.2⟩
section SIM
variable {p : Program} {l : Launch} {e : Env} {R : Room} {s0 : State} {m : MethodId} {args : Array Value} {below : List Frame} {meth : Method} {c : Code} {H : Heap} {locs : List Loc} {cells slots : Nat} {Q : State → Prop} {D : va_G} {base : Nat} {kv : Nat → Option Nat} {cI cZ cG : ClassId} {xs : Nat → Int32} {nS : Nat}
theorem mv_call {pc : Nat} {ls : Array Slot} {st0 rest : List Value} {a : Array Value} {r : Option mV} {s' : mSt} {free : Addr → Prop} (hr : va_Run p l e R s0 m args below meth c H locs cells slots 0 0 (F0 m pc ls st0) rest (mQc base kv cI cZ cG D r s' a) free) (hS : va_S (Ab base) s0.heap H locs) (hf : ∀ q, free q → Ab base q)
    (kk : ∀ (H1 : Heap) (locs1 : List Loc), va_P D vwCl (wl base cI cZ cG s') H1 → va_S (Ab base) s0.heap H1 locs1 → W p l e R s0 m args below meth c H1 locs1 cells slots Q (F0 m (pc + 3) ls ((r.map (cv base kv)).toList ++ rest))) : W p l e R s0 m args below meth c H locs cells slots Q (F0 m pc ls st0) := by
  intro T hT X
  obtain ⟨v, st₀, t, T', L, h0, X', hL, e1, e2, ⟨⟨hv, hP⟩, hz, hk⟩, st⟩ := hr T hT X
  cases hv
  rw [h0] at hz hk
  obtain ⟨t2, a1, b1⟩ := kk T'.heap (locs ++ L) (by rw [e1]; exact hP)
    ⟨Nat.le_trans hS.1 (by rw [e1]; exact hz), fun q h1 h2 => by rw [e1, hk q (Nat.lt_of_lt_of_le h1 hS.1) h2]; exact hS.2.1 q h1 h2, fun q hq => by
      rcases List.mem_append.mp hq with h | h
      · exact hS.2.2 q h
      · exact hf _ (hL q h)⟩ T' rfl X'
  exact ⟨t2, st t2 a1, b1⟩
/-- at a place of a method: from any heap that holds the memory, the machine comes to Q -/
def mG (p : Program) (l : Launch) (e : Env) (R : Room) (s0 : State) (m : MethodId) (args : Array Value) (below : List Frame) (meth : Method) (c : Code) (cells slots : Nat) (Q : State → Prop) (D : va_G) (base : Nat) (kv : Nat → Option Nat) (cI cZ cG : ClassId) (xs : Nat → Int32) (nS nL : Nat) (pc : Nat) (L : mL) (st : List mV) (s : mSt) : Prop :=
  ∀ (ls : Array Slot) (H : Heap) (locs : List Loc), LR base kv ls nL L → va_P D vwCl (wl base cI cZ cG s) H → va_S (Ab base) s0.heap H locs → s idScr = xs ∧ (s idLen 0).toNatClampNeg = nS → W p l e R s0 m args below meth c H locs cells slots Q (F0 m pc ls (st.map (cv base kv)))
/-- what stands fast during a method's run -/
def mCx (p : Program) (R : Room) (s0 : State) (m : MethodId) (args : Array Value) (c : Code) (cells slots : Nat) (D : va_G) (base : Nat) (kv : Nat → Option Nat) (cI cZ cG : ClassId) (xs : Nat → Int32) (nS μ : Nat) : Prop :=
  p.tables.exec = Jvm.exec ∧ c.code = mBy μ ∧ c.maxLocals = mMx μ ∧ mCl μ < 19 ∧ s0.vm.findClass (cN (mCl μ)) = some m.cls ∧ (∀ w ∈ wF, w.before args s0 = true) ∧ va_K D vwCl (tyL cI cZ cG) s0 ∧ KC base kv xs nS s0 s0.heap ∧ mFr μ ≤ R.frames ∧ mLo μ ≤ R.locals ∧ cells ≤ R.cells ∧ slots ≤ R.slots
/-- how a method's run ends -/
def mRh (p : Program) (l : Launch) (e : Env) (R : Room) (s0 : State) (m : MethodId) (args : Array Value) (below : List Frame) (meth : Method) (c : Code) (cells slots : Nat) (Q : State → Prop) (D : va_G) (base : Nat) (kv : Nat → Option Nat) (cI cZ cG : ClassId) (μ : Nat) (r : Option mV) (s' : mSt) : Prop :=
  ∀ (pc : Nat) (ls : Array Slot) (H : Heap) (locs : List Loc), va_P D vwCl (wl base cI cZ cG s') H → va_S (Ab base) s0.heap H locs →
    (∀ v, r = some (pI v) → decode (mBy μ) pc = .ok (.ireturn, 1) → narB (mRt μ) v = true → W p l e R s0 m args below meth c H locs cells slots Q (F0 m pc ls [.int v])) ∧
    (∀ a n, r = some (pA a) → decode (mBy μ) pc = .ok (.areturn, 1) → mRt μ = some (.object n) → W p l e R s0 m args below meth c H locs cells slots Q (F0 m pc ls [cv base kv (pA a)])) ∧
    (r = none → decode (mBy μ) pc = .ok (.return_, 1) → mRt μ = none → W p l e R s0 m args below meth c H locs cells slots Q (F0 m pc ls []))
/-- a callee, by what it comes to -/
def mMt (l : Launch) (D : va_G) (base : Nat) (kv : Nat → Option Nat) (cI cZ cG : ClassId) (xs : Nat → Int32) (nS : Nat) (ν : Nat) (as : List mV) (s : mSt) (r : Option mV) (s' : mSt) : Prop :=
  Met l (mNm ν) (Cond.code (mNm ν) (mBy ν) (mMx ν) (mRt ν) :: wF) (mRoom ν) (mPc base kv cI cZ cG D xs nS as s) (mQc base kv cI cZ cG D r s') 0 0 (Ab base)
theorem inb_in {i : Int32} {n : Nat} (h : inb i n = true) : vp_in i n := by
  unfold inb at h
  simp only [Bool.and_eq_true, Bool.not_eq_true', decide_eq_false_iff_not, decide_eq_true_eq] at h
  rintro (q | q)
  · exact h.1 q
  · omega
theorem pre_ok {U : State} {H : Heap} {locs : List Loc} {as : List mV} {s : mSt} (hK : va_K D vwCl (tyL cI cZ cG) s0) (hC : KC base kv xs nS s0 s0.heap) (hP : va_P D vwCl (wl base cI cZ cG s) H) (hS : va_S (Ab base) s0.heap H locs) (hU : U.heap = H) (hW : s0.WarmedH U.vm) : mPc base kv cI cZ cG D xs nS as s (as.map (cv base kv)).toArray U :=
  ⟨rfl, by rw [hU]; exact hP, va_K.moved hW.alike hK, by rw [hU]; exact KC_warm hW (KC_kept hC hS.2.1)⟩
theorem bz_nar {x : Int32} (h : bz x = true) : vp_nar .boolean x = x := by
  unfold bz at h
  simp only [Bool.or_eq_true, decide_eq_true_eq] at h
  rcases h with rfl | rfl <;> rfl
theorem swK_inv {q : mR} {x : Int32} {pc : Nat} {d : Int} {k : Nat → mO} : ∀ (os : List Int) (v : Int), swK x pc d v os k = some q → (∃ (j : Nat) (off : Int) (t : Nat), os[j]? = some off ∧ x = Int32.ofInt (v + j) ∧ (pc : Int) + off = (t : Int) ∧ k t = some q) ∨ ((∀ j : Nat, j < os.length → ¬ x = Int32.ofInt (v + j)) ∧ ∃ t : Nat, (pc : Int) + d = (t : Int) ∧ k t = some q) := by
  intro os
  induction os with
  | nil =>
    intro v h
    obtain ⟨t, h1, h2⟩ := jtK_inv h
    exact Or.inr ⟨fun j hj => absurd hj (Nat.not_lt_zero _), t, h1, h2⟩
  | cons o os ih =>
    intro v h
    obtain ⟨h1, h2⟩ := ite_inv h
    by_cases hc : x = Int32.ofInt v
    · obtain ⟨t, h3, h4⟩ := jtK_inv (h1 hc)
      exact Or.inl ⟨0, o, t, rfl, by rw [hc]; simp, h3, h4⟩
    · rcases ih (v + 1) (h2 hc) with ⟨j, off, t, g1, g2, g3, g4⟩ | ⟨g1, g2⟩
      · exact Or.inl ⟨j + 1, off, t, by simpa using g1, by rw [g2]; congr 1; omega, g3, g4⟩
      · refine Or.inr ⟨fun j hj => ?_, g2⟩
        cases j with
        | zero => simpa using hc
        | succ j =>
          have := g1 j (by simpa using hj)
          rw [show v + ((j + 1 : Nat) : Int) = v + 1 + (j : Int) by omega]
          exact this
/-- a copy out of a static table of ints -/
theorem mv_copyt {cc : ByteArray} {pc : Nat} {ls : Array Slot} {rest : List Value} {cl : List vw_C} {A : Nat → Prop} {a : Nat} {tys : List (ClassId × FieldType)} {ws : va_W} (hexec : p.tables.exec = Jvm.exec) (hb : c.code = cc) (hml : c.maxLocals = ls.size) {own : String} {index : Nat} (hown : s0.vm.findClass own = some m.cls) (hlink : (Cond.methodLink own index arraycopyName).before args s0 = true) (hnat : (Cond.native arraycopyName).before args s0 = true) (hstat : (Cond.static arraycopyName).before args s0 = true) (hini : (Cond.initialized "java/lang/System").before args s0 = true)
    (hK : va_K D cl tys s0) (hP : va_P D cl ws H) (hD : va_D A ws) (hS : va_S A s0.heap H locs) {b0 n0 : Nat} {f : Nat → Int32} (hX : va_T .int b0 n0 (fun j => .int (f j)) A s0 s0.heap) (q1 t1 : Nat) {c1 : ClassId} {n1 : Nat} {g : Nat → Int32} (ha1 : ws[q1]? = some (a, .inl (c1, n1, .inl g))) (ht1 : tys[t1]? = some (c1, .int))
    {sp dp n : Int32} (h1 : ¬ sp < 0) (h2 : ¬ dp < 0) (h3 : ¬ n < 0) (h4 : sp.toNatClampNeg + n.toNatClampNeg ≤ n0) (h5 : dp.toNatClampNeg + n.toNatClampNeg ≤ n1)
    (hframes : 1 ≤ R.frames) (hlocals : (rest.map fun v => v.category).sum + (nativeFrameWords "java/lang/System" "arraycopy" 5 + 11) ≤ R.locals) (hdg : decode cc pc = .ok (.invokestatic index, 3))
    (kk : ∀ (H1 : Heap) (locs1 : List Loc), va_P D cl (ws.set q1 (a, .inl (c1, n1, .inl (va_cpy f g sp.toNatClampNeg dp.toNatClampNeg n.toNatClampNeg)))) H1 → va_D A (ws.set q1 (a, .inl (c1, n1, .inl (va_cpy f g sp.toNatClampNeg dp.toNatClampNeg n.toNatClampNeg)))) → va_S A s0.heap H1 locs1 → W p l e R s0 m args below meth c H1 locs1 cells slots Q (F0 m (pc + 3) ls rest)) : W p l e R s0 m args below meth c H locs cells slots Q (F0 m pc ls (.int n :: .int dp :: .ref a :: .int sp :: .ref b0 :: rest)) := by
  have nn : ∀ z : Int32, ¬ z < 0 → z.toInt = (z.toNatClampNeg : Int) := by
    intro z hz
    have hz0 : (0 : Int) ≤ z.toInt := by
      have := Int32.not_lt.mp hz
      simpa using Int32.le_iff_toInt_le.mp this
    show z.toInt = ((z.toInt.toNat : Nat) : Int)
    omega
  intro T hT X
  obtain ⟨scr, hs1, hs2, hs3, hs4, -, hs5, hs7⟩ := hX
  have hc0 : H[b0]? = some scr := by rw [hS.2.1 b0 (Array.getElem?_eq_some_iff.mp hs1).1 hs7]; exact hs1
  have hc1 : H[a]? = some (vp_cell c1 (n1, .inl g)) := hP q1 _ ha1
  obtain ⟨hs6, k0, hk0, cm0, hkk0⟩ := hs2
  obtain ⟨-, kq, hkq, cm1, hkk1⟩ := (hK.2 t1 _ ht1).1 n1 (fun j => .int (g j))
  obtain ⟨vm', X', step⟩ := X.arraycopy hexec hown hlink hnat hstat hini (src := b0) (dst := a) (cs := scr) (cd := vp_cell c1 (n1, .inl g)) (srcPos := sp) (destPos := dp) (n := n) (by rw [hT]; exact hc0) (by rw [hT]; exact hc1)
    hs6 (fun _ h => by cases h) hs3 (fun h => by cases h) hk0 hkq hkk0 hkk1 (by simp [refKind]) h1 h2 h3
    (by rw [nn sp h1, nn n h3]; omega)
    (by rw [nn dp h2, nn n h3]; show ¬ _ > ((arrV c1 n1 (fun j => .int (g j))).slots.size : Int); rw [arrV_size]; omega)
    (fun vm₁ _ i hi => by
      have e : scr.slots.getD (sp.toNatClampNeg + i) .null = .int (f (sp.toNatClampNeg + i)) := by
        rw [Array.getD_eq_getD_getElem?, hs5 _ (by omega)]
        rfl
      rw [e]
      exact ⟨rfl, trivial⟩)
    (g := F0 m pc ls (.int n :: .int dp :: .ref a :: .int sp :: .ref b0 :: rest)) rfl (by rw [hml]) (rest := rest) rfl (by rw [hb]; exact hdg) hframes (by show 2 * 0 + _ + _ ≤ _; omega)
  have e1 : copied scr (vp_cell c1 (n1, .inl g)) sp dp n = vp_cell c1 (n1, .inl (va_cpy f g sp.toNatClampNeg dp.toNatClampNeg n.toNatClampNeg)) := va_copiedX (fun z => .int z) scr c1 f g hs5 h4
  rw [e1] at X' step
  have hl : a < H.size := (Array.getElem?_eq_some_iff.mp hc1).1
  obtain ⟨cN', hcN⟩ : ∃ z : Cell, z = vp_cell c1 (n1, .inl (va_cpy f g sp.toNatClampNeg dp.toNatClampNeg n.toNatClampNeg)) := ⟨_, rfl⟩
  rw [← hcN] at X' step
  have hheap : ((T.setVm vm').setCell a cN').heap = H.setIfInBounds a cN' := by rw [← hT]; rfl
  have oq : ∀ q : Nat, q ≠ a → (H.setIfInBounds a cN')[q]? = H[q]? := fun q hq => by simp [Array.getElem?_setIfInBounds, Ne.symm hq]
  have hat : va_at D cl (a, .inl (c1, n1, .inl (va_cpy f g sp.toNatClampNeg dp.toNatClampNeg n.toNatClampNeg))) (H.setIfInBounds a cN') := by
    show (H.setIfInBounds a cN')[a]? = some (vp_cell _ _)
    rw [← hcN]
    simp [Array.getElem?_setIfInBounds, hl]
  obtain ⟨t, a1, b1⟩ := kk _ _ (hP.set hD ha1 hat oq) (hD.set ha1) ⟨by simp; exact hS.1, fun q g1 g2 => by
      rw [oq q (fun e => g2 (by rw [e]; exact hD.2 q1 _ ha1))]
      exact hS.2.1 q g1 g2, fun q hq => by
      rcases List.mem_append.mp hq with h | h
      · exact hS.2.2 q h
      · obtain ⟨z, -, hz⟩ := List.mem_map.mp h
        rw [← hz]
        exact hD.2 q1 _ ha1⟩ _ hheap X'
  exact ⟨t, step t a1, b1⟩
theorem ab_out {q : Nat} (h : q < base) : ¬ Ab base q := Nat.not_le.mpr h
theorem sK_ok {a i : Nat} (h : sK a = some i) : i < 12 ∧ a = 240 + i := by
  unfold sK at h
  cases hb : (Nat.ble 240 a && Nat.ble a 251) with
  | false => rw [hb] at h; cases h
  | true =>
    rw [hb] at h
    have h : some (a - 240) = some i := h
    simp only [Bool.and_eq_true] at hb
    have h1 := Nat.le_of_ble_eq_true hb.1
    have h2 := Nat.le_of_ble_eq_true hb.2
    have h3 := Option.some.inj h
    omega
theorem bK_ok {a i : Nat} (h : bK a = some i) : i < 12 ∧ a = idByt + i := by
  unfold bK at h
  unfold idByt
  cases hb : (Nat.ble 252 a && Nat.ble a 263) with
  | false => rw [hb] at h; cases h
  | true =>
    rw [hb] at h
    have h : some (a - 252) = some i := h
    simp only [Bool.and_eq_true] at hb
    have h1 := Nat.le_of_ble_eq_true hb.1
    have h2 := Nat.le_of_ble_eq_true hb.2
    have h3 := Option.some.inj h
    omega
theorem cT_ok : (cT.all fun q => !(Nat.blt q.1 mNN)) = true := by decide +kernel
theorem cK_ok {a : Nat} {z : List Int32} (h : cK a = some z) : ¬ a < mNN := by
  have h1 := List.all_eq_true.mp cT_ok _ (lk_mem h)
  intro hlt
  have h2 : Nat.blt a mNN = true := Nat.ble_eq_true_of_le hlt
  simp [h2] at h1
/-- a world's heap behind a write of one place of an array of ints -/
theorem wl_iw {s : mSt} {a n j : Nat} {x : Int32} {H1 : Heap} (hi : iK a = some n) (h : va_P D vwCl ((wl base cI cZ cG s).set a (base + a, .inl (cI, n, .inl (upd (s a) j x)))) H1) : va_P D vwCl (wl base cI cZ cG (wr s a j x)) H1 := by
  rw [← wl_set (s := s) (iK_lt hi) (fun q hq => wr_ne s j x hq), ce_i hi, wr_at]
  exact h
theorem wl_zw {s : mSt} {a n j : Nat} {x : Int32} {H1 : Heap} (hi : zK a = some n) (h : va_P D vwCl ((wl base cI cZ cG s).set a (base + a, .inl (cZ, n, .inl (upd (s a) j x)))) H1) : va_P D vwCl (wl base cI cZ cG (wr s a j x)) H1 := by
  rw [← wl_set (s := s) (zK_ok hi).1 (fun q hq => wr_ne s j x hq), ce_z hi, wr_at]
  exact h
theorem wl_cw {s : mSt} {a n : Nat} {f : Nat → Int32} {sp dp k : Nat} {H1 : Heap} (hi : iK a = some n) (h : va_P D vwCl ((wl base cI cZ cG s).set a (base + a, .inl (cI, n, .inl (va_cpy f (s a) sp dp k)))) H1) : va_P D vwCl (wl base cI cZ cG (cpw s a f sp dp k)) H1 := by
  rw [← wl_set (s := s) (s' := cpw s a f sp dp k) (iK_lt hi) (fun q hq => if_neg hq), ce_i hi]
  rw [show cpw s a f sp dp k a = va_cpy f (s a) sp dp k from if_pos rfl]
  exact h
theorem wl_ow {s : mSt} {a k : Nat} {q : Nat × List (Option Nat)} {x : Int32} {H1 : Heap} (ho : oK a = some q) (hk : q.2[k]? = some none) (h : va_P D vwCl ((wl base cI cZ cG s).set a (base + a, .inr (q.1, (fv base s a q.2).set k (.int x)))) H1) : va_P D vwCl (wl base cI cZ cG (wr s a k x)) H1 := by
  rw [← wl_set (s := s) (oK_ok ho).1 (fun z hz => wr_ne s k x hz), ce_o ho, ← fv_set hk]
  exact h
theorem keep_wr {s : mSt} {a j : Nat} {x : Int32} (ha : a ≠ idScr ∧ a ≠ idLen) (h : s idScr = xs ∧ (s idLen 0).toNatClampNeg = nS) : wr s a j x idScr = xs ∧ (wr s a j x idLen 0).toNatClampNeg = nS := by
  rw [wr_ne s j x (fun e => ha.1 e.symm), wr_ne s j x (fun e => ha.2 e.symm)]
  exact h
theorem keep_cpw {s : mSt} {a sp dp k : Nat} {f : Nat → Int32} (ha : a ≠ idScr ∧ a ≠ idLen) (h : s idScr = xs ∧ (s idLen 0).toNatClampNeg = nS) : cpw s a f sp dp k idScr = xs ∧ (cpw s a f sp dp k idLen 0).toNatClampNeg = nS := by
  rw [show cpw s a f sp dp k idScr = s idScr from if_neg (fun e => ha.1 e.symm), show cpw s a f sp dp k idLen = s idLen from if_neg (fun e => ha.2 e.symm)]
  exact h
theorem mdec {μ pc : Nat} {i : Instr} {n : Nat} (h : ins μ pc = some (i, n)) : decode (mBy μ) pc = .ok (i, n) := by
  unfold ins at h
  cases hb : Nat.blt μ mMany with
  | false => rw [hb] at h; cases h
  | true =>
    rw [hb] at h
    have h : lk (mKt μ) pc = some (i, n) := h
    have := List.all_eq_true.mp (mI_dec μ) _ (lk_mem h)
    simpa using this
set_option maxHeartbeats 20000000 in
/-- ONE STEP -/
theorem exI_sim {μ : Nat} (hCx : mCx p R s0 m args c cells slots D base kv cI cZ cG xs nS μ) {nx : Nat → mL → List mV → mSt → mO} {cl : Nat → mL → mSt → mO} {r : Option mV} {s' : mSt}
    (hN : ∀ pc L st s, nx pc L st s = some (r, s') → mG p l e R s0 m args below meth c cells slots Q D base kv cI cZ cG xs nS (mMx μ) pc L st s)
    (hCl : ∀ ν as s1 r1 s2, mOKr (mI ν) → (slL as).length ≤ mMx ν → (s1 idScr = xs ∧ (s1 idLen 0).toNatClampNeg = nS) → cl ν (argL (mMx ν) as) s1 = some (r1, s2) → (s2 idScr = xs ∧ (s2 idLen 0).toNatClampNeg = nS) ∧ mMt l D base kv cI cZ cG xs nS ν as s1 r1 s2)
    (hRet : mRh p l e R s0 m args below meth c cells slots Q D base kv cI cZ cG μ r s') {pc n : Nat} {L : mL} {st : List mV} {s : mSt} {i : Instr} (hd : decode (mBy μ) pc = .ok (i, n)) (hn : lenOK i n = true) (h : exI nx cl μ pc n L st s i = some (r, s')) : mG p l e R s0 m args below meth c cells slots Q D base kv cI cZ cG xs nS (mMx μ) pc L st s := by
  obtain ⟨hx, hb, hml, hcl, hown, hts, hK, hC, hRf, hRl, hcs1, hcs2⟩ := hCx
  intro ls H locs hl hP hS hxs
  have hA : ∀ (a : Nat), a < mNN → Ab base (base + a) := fun a _ => Nat.le_add_right _ _
  cases i
  case iconst v =>
    cases Nat.eq_of_beq_eq_true hn
    have k := hN _ _ _ _ h ls H locs hl hP hS hxs
    exact lv_iconst hx hb hd rfl k
  case bipush v =>
    cases Nat.eq_of_beq_eq_true hn
    have k := hN _ _ _ _ h ls H locs hl hP hS hxs
    exact lv_bipush hx hb hd rfl k
  case sipush v =>
    cases Nat.eq_of_beq_eq_true hn
    have k := hN _ _ _ _ h ls H locs hl hP hS hxs
    exact lv_sipush hx hb hd rfl k
  case lconst v =>
    cases Nat.eq_of_beq_eq_true hn
    have k := hN _ _ _ _ h ls H locs hl hP hS hxs
    exact lv_lconst hx hb hd rfl k
  case iload j =>
    cases Nat.eq_of_beq_eq_true hn
    obtain ⟨x, h1, h⟩ := ldI_inv h
    have k := hN _ _ _ _ h ls H locs hl hP hS hxs
    exact lv_iload hx hb hd (LR_get hl h1) k
  case iload_n j =>
    cases Nat.eq_of_beq_eq_true hn
    obtain ⟨x, h1, h⟩ := ldI_inv h
    have k := hN _ _ _ _ h ls H locs hl hP hS hxs
    exact lv_iload_n hx hb hd rfl (LR_get hl h1) k
  case lload j =>
    cases Nat.eq_of_beq_eq_true hn
    obtain ⟨x, h1, h⟩ := ldJ_inv h
    have k := hN _ _ _ _ h ls H locs hl hP hS hxs
    exact lv_lload hx hb hd (LR_get hl h1) k
  case lload_n j =>
    cases Nat.eq_of_beq_eq_true hn
    obtain ⟨x, h1, h⟩ := ldJ_inv h
    have k := hN _ _ _ _ h ls H locs hl hP hS hxs
    exact lv_lload_n hx hb hd rfl (LR_get hl h1) k
  case aload j =>
    cases Nat.eq_of_beq_eq_true hn
    replace h : ldA L j (fun v => nx (pc + 2) L (v :: st) s) = some (r, s') := h
    obtain ⟨v, h1, h2, h⟩ := ldA_inv h
    have k := hN _ _ _ _ h ls H locs hl hP hS hxs
    have g := LR_get hl h1
    rw [List.map_cons] at k
    rcases cv_isRf (base := base) (kv := kv) h2 with hz | ⟨z, hz⟩
    · rw [hz] at k g
      exact lv_aloadN hx hb hd g k
    · rw [hz] at k g
      exact lv_aload hx hb hd g k
  case aload_n j =>
    cases Nat.eq_of_beq_eq_true hn
    replace h : ldA L j (fun v => nx (pc + 1) L (v :: st) s) = some (r, s') := h
    obtain ⟨v, h1, h2, h⟩ := ldA_inv h
    have k := hN _ _ _ _ h ls H locs hl hP hS hxs
    have g := LR_get hl h1
    rw [List.map_cons] at k
    rcases cv_isRf (base := base) (kv := kv) h2 with hz | ⟨z, hz⟩
    · rw [hz] at k g
      exact lv_aload_nN hx hb hd rfl g k
    · rw [hz] at k g
      exact lv_aload_n hx hb hd rfl g k
  case istore j =>
    cases Nat.eq_of_beq_eq_true hn
    obtain ⟨x, t, rfl, h⟩ := k1_inv h
    obtain ⟨h1, h⟩ := gd_inv h
    exact lv_istore hx hb hd (LR_has hl) (by rw [← hl.2.1]; exact okS_lt h1) rfl (fun ls' h' => hN _ _ _ _ h ls' H locs (LR_set1 (v := pI x) hl.2.1 h1 h') hP hS hxs)
  case istore_n j =>
    cases Nat.eq_of_beq_eq_true hn
    obtain ⟨x, t, rfl, h⟩ := k1_inv h
    obtain ⟨h1, h⟩ := gd_inv h
    exact lv_istore_n hx hb hd rfl (LR_has hl) (by rw [← hl.2.1]; exact okS_lt h1) rfl (fun ls' h' => hN _ _ _ _ h ls' H locs (LR_set1 (v := pI x) hl.2.1 h1 h') hP hS hxs)
  case astore j =>
    cases Nat.eq_of_beq_eq_true hn
    replace h : popA st (fun v r => gd (okS L j) (nx (pc + 2) (L.set j (some v)) r s)) = some (r, s') := h
    obtain ⟨v, t, rfl, h2, h⟩ := popA_inv h
    obtain ⟨h1, h⟩ := gd_inv h
    rw [List.map_cons]
    rcases cv_isRf (base := base) (kv := kv) h2 with hz | ⟨z, hz⟩
    · rw [hz]
      exact lv_astoreN hx hb hd (LR_has hl) (by rw [← hl.2.1]; exact okS_lt h1) rfl (fun ls' h' => hN _ _ _ _ h ls' H locs (LR_set1 (v := v) hl.2.1 h1 (by rw [hz]; exact h')) hP hS hxs)
    · rw [hz]
      exact lv_astore hx hb hd (LR_has hl) (by rw [← hl.2.1]; exact okS_lt h1) rfl (fun ls' h' => hN _ _ _ _ h ls' H locs (LR_set1 (v := v) hl.2.1 h1 (by rw [hz]; exact h')) hP hS hxs)
  case astore_n j =>
    cases Nat.eq_of_beq_eq_true hn
    replace h : popA st (fun v r => gd (okS L j) (nx (pc + 1) (L.set j (some v)) r s)) = some (r, s') := h
    obtain ⟨v, t, rfl, h2, h⟩ := popA_inv h
    obtain ⟨h1, h⟩ := gd_inv h
    rw [List.map_cons]
    rcases cv_isRf (base := base) (kv := kv) h2 with hz | ⟨z, hz⟩
    · rw [hz]
      exact lv_astore_nN hx hb hd rfl (LR_has hl) (by rw [← hl.2.1]; exact okS_lt h1) rfl (fun ls' h' => hN _ _ _ _ h ls' H locs (LR_set1 (v := v) hl.2.1 h1 (by rw [hz]; exact h')) hP hS hxs)
    · rw [hz]
      exact lv_astore_n hx hb hd rfl (LR_has hl) (by rw [← hl.2.1]; exact okS_lt h1) rfl (fun ls' h' => hN _ _ _ _ h ls' H locs (LR_set1 (v := v) hl.2.1 h1 (by rw [hz]; exact h')) hP hS hxs)
  case lstore j =>
    cases Nat.eq_of_beq_eq_true hn
    obtain ⟨x, t, rfl, h⟩ := j1_inv h
    obtain ⟨h1, h⟩ := gd_inv h
    simp only [Bool.and_eq_true] at h1
    exact lv_lstore hx hb hd (LR_has hl) (by rw [← hl.2.1]; exact blt_lt h1.2) rfl (fun ls' h' => hN _ _ _ _ h ls' H locs (LR_set2 (v := pJ x) hl.2.1 h1.1 (blt_lt h1.2) h') hP hS hxs)
  case iinc j cc =>
    cases Nat.eq_of_beq_eq_true hn
    obtain ⟨x, h0, h⟩ := ldI_inv h
    obtain ⟨h1, h⟩ := gd_inv h
    obtain ⟨jj, hjj⟩ := List.getElem?_of_mem (asL_mem (base := base) (kv := kv) (getD_some h0))
    exact lv_iinc hx hb hd (LR_has hl) hjj rfl (by rw [← hl.2.1]; exact okS_lt h1) rfl (fun ls' h' => hN _ _ _ _ h ls' H locs (LR_set1 (v := pI (x + Int32.ofInt cc)) hl.2.1 h1 h') hP hS hxs)
  case iadd =>
    cases Nat.eq_of_beq_eq_true hn
    obtain ⟨x, y, t, rfl, h⟩ := k2_inv h
    have k := hN _ _ _ _ h ls H locs hl hP hS hxs
    exact lv_iadd hx hb hd k
  case isub =>
    cases Nat.eq_of_beq_eq_true hn
    obtain ⟨x, y, t, rfl, h⟩ := k2_inv h
    have k := hN _ _ _ _ h ls H locs hl hP hS hxs
    exact lv_isub hx hb hd k
  case imul =>
    cases Nat.eq_of_beq_eq_true hn
    obtain ⟨x, y, t, rfl, h⟩ := k2_inv h
    have k := hN _ _ _ _ h ls H locs hl hP hS hxs
    exact lv_imul hx hb hd k
  case iand =>
    cases Nat.eq_of_beq_eq_true hn
    obtain ⟨x, y, t, rfl, h⟩ := k2_inv h
    have k := hN _ _ _ _ h ls H locs hl hP hS hxs
    exact lv_iand hx hb hd k
  case ior =>
    cases Nat.eq_of_beq_eq_true hn
    obtain ⟨x, y, t, rfl, h⟩ := k2_inv h
    have k := hN _ _ _ _ h ls H locs hl hP hS hxs
    exact lv_ior hx hb hd k
  case ixor =>
    cases Nat.eq_of_beq_eq_true hn
    obtain ⟨x, y, t, rfl, h⟩ := k2_inv h
    have k := hN _ _ _ _ h ls H locs hl hP hS hxs
    exact lv_ixor hx hb hd k
  case ishl =>
    cases Nat.eq_of_beq_eq_true hn
    obtain ⟨x, y, t, rfl, h⟩ := k2_inv h
    have k := hN _ _ _ _ h ls H locs hl hP hS hxs
    exact lv_ishl hx hb hd k
  case ishr =>
    cases Nat.eq_of_beq_eq_true hn
    obtain ⟨x, y, t, rfl, h⟩ := k2_inv h
    have k := hN _ _ _ _ h ls H locs hl hP hS hxs
    exact lv_ishr hx hb hd k
  case iushr =>
    cases Nat.eq_of_beq_eq_true hn
    obtain ⟨x, y, t, rfl, h⟩ := k2_inv h
    have k := hN _ _ _ _ h ls H locs hl hP hS hxs
    exact lv_iushr hx hb hd rfl k
  case idiv =>
    cases Nat.eq_of_beq_eq_true hn
    obtain ⟨x, y, t, rfl, h⟩ := k2_inv h
    obtain ⟨h1, h⟩ := gd_inv h
    have k := hN _ _ _ _ h ls H locs hl hP hS hxs
    exact lv_idiv hx hb hd (by simpa using h1) k
  case irem =>
    cases Nat.eq_of_beq_eq_true hn
    obtain ⟨x, y, t, rfl, h⟩ := k2_inv h
    obtain ⟨h1, h⟩ := gd_inv h
    have k := hN _ _ _ _ h ls H locs hl hP hS hxs
    exact lv_irem hx hb hd (by simpa using h1) k
  case ineg =>
    cases Nat.eq_of_beq_eq_true hn
    obtain ⟨x, t, rfl, h⟩ := k1_inv h
    have k := hN _ _ _ _ h ls H locs hl hP hS hxs
    exact lv_ineg hx hb hd k
  case i2l =>
    cases Nat.eq_of_beq_eq_true hn
    obtain ⟨x, t, rfl, h⟩ := k1_inv h
    have k := hN _ _ _ _ h ls H locs hl hP hS hxs
    exact lv_i2l hx hb hd rfl k
  case i2b =>
    cases Nat.eq_of_beq_eq_true hn
    obtain ⟨x, t, rfl, h⟩ := k1_inv h
    have k := hN _ _ _ _ h ls H locs hl hP hS hxs
    exact lv_i2b hx hb hd rfl k
  case i2s =>
    cases Nat.eq_of_beq_eq_true hn
    obtain ⟨x, t, rfl, h⟩ := k1_inv h
    have k := hN _ _ _ _ h ls H locs hl hP hS hxs
    exact lv_i2s hx hb hd rfl k
  case i2c =>
    cases Nat.eq_of_beq_eq_true hn
    obtain ⟨x, t, rfl, h⟩ := k1_inv h
    have k := hN _ _ _ _ h ls H locs hl hP hS hxs
    exact lv_i2c hx hb hd rfl k
  case l2i =>
    cases Nat.eq_of_beq_eq_true hn
    obtain ⟨x, t, rfl, h⟩ := j1_inv h
    have k := hN _ _ _ _ h ls H locs hl hP hS hxs
    exact lv_l2i hx hb hd rfl k
  case ladd =>
    cases Nat.eq_of_beq_eq_true hn
    obtain ⟨x, y, t, rfl, h⟩ := j2_inv h
    have k := hN _ _ _ _ h ls H locs hl hP hS hxs
    exact lv_ladd hx hb hd k
  case land =>
    cases Nat.eq_of_beq_eq_true hn
    obtain ⟨x, y, t, rfl, h⟩ := j2_inv h
    have k := hN _ _ _ _ h ls H locs hl hP hS hxs
    exact lv_land hx hb hd k
  case lor =>
    cases Nat.eq_of_beq_eq_true hn
    obtain ⟨x, y, t, rfl, h⟩ := j2_inv h
    have k := hN _ _ _ _ h ls H locs hl hP hS hxs
    exact lv_lor hx hb hd k
  case lshl =>
    cases Nat.eq_of_beq_eq_true hn
    obtain ⟨x, y, t, rfl, h⟩ := ji_inv h
    have k := hN _ _ _ _ h ls H locs hl hP hS hxs
    exact lv_lshl hx hb hd rfl k
  case lshr =>
    cases Nat.eq_of_beq_eq_true hn
    obtain ⟨x, y, t, rfl, h⟩ := ji_inv h
    have k := hN _ _ _ _ h ls H locs hl hP hS hxs
    exact lv_lshr hx hb hd rfl k
  case lushr =>
    cases Nat.eq_of_beq_eq_true hn
    obtain ⟨x, y, t, rfl, h⟩ := ji_inv h
    have k := hN _ _ _ _ h ls H locs hl hP hS hxs
    exact lv_lushr hx hb hd rfl k
  case lcmp =>
    cases Nat.eq_of_beq_eq_true hn
    obtain ⟨x, y, t, rfl, h⟩ := j2_inv h
    have k := hN _ _ _ _ h ls H locs hl hP hS hxs
    exact W.lcmp hx hb hd k
  case dup =>
    cases Nat.eq_of_beq_eq_true hn
    cases st with
    | nil => exact nomatch (show (none : mO) = some _ from h)
    | cons v t =>
      obtain ⟨h1, h⟩ := gd_inv h
      have k := hN _ _ _ _ h ls H locs hl hP hS hxs
      exact lv_dup hx hb hd (by rw [cv_cat]; exact Nat.eq_of_beq_eq_true h1) k
  case pop =>
    cases Nat.eq_of_beq_eq_true hn
    cases st with
    | nil => exact nomatch (show (none : mO) = some _ from h)
    | cons v t =>
      obtain ⟨h1, h⟩ := gd_inv h
      have k := hN _ _ _ _ h ls H locs hl hP hS hxs
      exact lv_pop (va := cv base kv v) hx hb hd (by rw [cv_cat]; exact Nat.eq_of_beq_eq_true h1) k
  case dup2 =>
    cases Nat.eq_of_beq_eq_true hn
    rcases st with _ | ⟨v, _ | ⟨w, t⟩⟩
    · exact nomatch (show (none : mO) = some _ from h)
    · exact nomatch (show (none : mO) = some _ from h)
    · obtain ⟨h1, h⟩ := gd_inv h
      simp only [Bool.and_eq_true] at h1
      have k := hN _ _ _ _ h ls H locs hl hP hS hxs
      exact lv_dup2_11 hx hb hd (by rw [cv_cat]; exact Nat.eq_of_beq_eq_true h1.1) (by rw [cv_cat]; exact Nat.eq_of_beq_eq_true h1.2) k
  case goto off =>
    cases Nat.eq_of_beq_eq_true hn
    obtain ⟨t, h1, h⟩ := jtK_inv h
    exact lv_goto hx hb hd h1 (hN _ _ _ _ h ls H locs hl hP hS hxs)
  case if_icmp cond off =>
    cases cond
    case eq =>
      cases Nat.eq_of_beq_eq_true hn
      obtain ⟨x, y, t, rfl, h⟩ := k2_inv h
      obtain ⟨tg, h1, h⟩ := jtK_inv h
      obtain ⟨ha, hf⟩ := ite_inv h
      exact lv_icmp_eq hx hb hd h1 (fun q => hN _ _ _ _ (ha q) ls H locs hl hP hS hxs) (fun q => hN _ _ _ _ (hf q) ls H locs hl hP hS hxs)
    case ne =>
      cases Nat.eq_of_beq_eq_true hn
      obtain ⟨x, y, t, rfl, h⟩ := k2_inv h
      obtain ⟨tg, h1, h⟩ := jtK_inv h
      obtain ⟨ha, hf⟩ := ite_inv h
      exact lv_icmp_ne hx hb hd h1 (fun q => hN _ _ _ _ (hf q) ls H locs hl hP hS hxs) (fun q => hN _ _ _ _ (ha q) ls H locs hl hP hS hxs)
    case lt =>
      cases Nat.eq_of_beq_eq_true hn
      obtain ⟨x, y, t, rfl, h⟩ := k2_inv h
      obtain ⟨tg, h1, h⟩ := jtK_inv h
      obtain ⟨ha, hf⟩ := ite_inv h
      exact lv_icmp_lt hx hb hd h1 (fun q => hN _ _ _ _ (ha q) ls H locs hl hP hS hxs) (fun q => hN _ _ _ _ (hf q) ls H locs hl hP hS hxs)
    case ge =>
      cases Nat.eq_of_beq_eq_true hn
      obtain ⟨x, y, t, rfl, h⟩ := k2_inv h
      obtain ⟨tg, h1, h⟩ := jtK_inv h
      obtain ⟨ha, hf⟩ := ite_inv h
      exact lv_icmp_ge hx hb hd h1 (fun q => hN _ _ _ _ (ha q) ls H locs hl hP hS hxs) (fun q => hN _ _ _ _ (hf q) ls H locs hl hP hS hxs)
    case gt =>
      cases Nat.eq_of_beq_eq_true hn
      obtain ⟨x, y, t, rfl, h⟩ := k2_inv h
      obtain ⟨tg, h1, h⟩ := jtK_inv h
      obtain ⟨ha, hf⟩ := ite_inv h
      exact lv_icmp_gt hx hb hd h1 (fun q => hN _ _ _ _ (ha q) ls H locs hl hP hS hxs) (fun q => hN _ _ _ _ (hf q) ls H locs hl hP hS hxs)
    case le =>
      cases Nat.eq_of_beq_eq_true hn
      obtain ⟨x, y, t, rfl, h⟩ := k2_inv h
      obtain ⟨tg, h1, h⟩ := jtK_inv h
      obtain ⟨ha, hf⟩ := ite_inv h
      exact lv_icmp_le hx hb hd h1 (fun q => hN _ _ _ _ (ha q) ls H locs hl hP hS hxs) (fun q => hN _ _ _ _ (hf q) ls H locs hl hP hS hxs)
  case ifCond cond off =>
    cases cond
    case eq =>
      cases Nat.eq_of_beq_eq_true hn
      obtain ⟨x, t, rfl, h⟩ := k1_inv h
      obtain ⟨tg, h1, h⟩ := jtK_inv h
      obtain ⟨ha, hf⟩ := ite_inv h
      exact lv_if_eq hx hb hd h1 (fun q => hN _ _ _ _ (ha q) ls H locs hl hP hS hxs) (fun q => hN _ _ _ _ (hf q) ls H locs hl hP hS hxs)
    case ne =>
      cases Nat.eq_of_beq_eq_true hn
      obtain ⟨x, t, rfl, h⟩ := k1_inv h
      obtain ⟨tg, h1, h⟩ := jtK_inv h
      obtain ⟨ha, hf⟩ := ite_inv h
      exact lv_if_ne hx hb hd h1 (fun q => hN _ _ _ _ (hf q) ls H locs hl hP hS hxs) (fun q => hN _ _ _ _ (ha q) ls H locs hl hP hS hxs)
    case lt =>
      cases Nat.eq_of_beq_eq_true hn
      obtain ⟨x, t, rfl, h⟩ := k1_inv h
      obtain ⟨tg, h1, h⟩ := jtK_inv h
      obtain ⟨ha, hf⟩ := ite_inv h
      exact lv_if_lt hx hb hd h1 (fun q => hN _ _ _ _ (ha q) ls H locs hl hP hS hxs) (fun q => hN _ _ _ _ (hf q) ls H locs hl hP hS hxs)
    case ge =>
      cases Nat.eq_of_beq_eq_true hn
      obtain ⟨x, t, rfl, h⟩ := k1_inv h
      obtain ⟨tg, h1, h⟩ := jtK_inv h
      obtain ⟨ha, hf⟩ := ite_inv h
      exact lv_if_ge hx hb hd h1 (fun q => hN _ _ _ _ (ha q) ls H locs hl hP hS hxs) (fun q => hN _ _ _ _ (hf q) ls H locs hl hP hS hxs)
    case gt =>
      cases Nat.eq_of_beq_eq_true hn
      obtain ⟨x, t, rfl, h⟩ := k1_inv h
      obtain ⟨tg, h1, h⟩ := jtK_inv h
      obtain ⟨ha, hf⟩ := ite_inv h
      exact lv_if_gt hx hb hd h1 (fun q => hN _ _ _ _ (ha q) ls H locs hl hP hS hxs) (fun q => hN _ _ _ _ (hf q) ls H locs hl hP hS hxs)
    case le =>
      cases Nat.eq_of_beq_eq_true hn
      obtain ⟨x, t, rfl, h⟩ := k1_inv h
      obtain ⟨tg, h1, h⟩ := jtK_inv h
      obtain ⟨ha, hf⟩ := ite_inv h
      exact lv_if_le hx hb hd h1 (fun q => hN _ _ _ _ (ha q) ls H locs hl hP hS hxs) (fun q => hN _ _ _ _ (hf q) ls H locs hl hP hS hxs)
  case tableswitch d lo hi offs =>
    obtain ⟨x, t, rfl, h⟩ := k1_inv h
    obtain ⟨h1, h⟩ := gd_inv h
    simp only [Bool.and_eq_true, decide_eq_true_eq] at h1
    obtain ⟨e1, e2, e3⟩ := h1
    rcases swK_inv _ _ h with ⟨j, off, tg, g1, g2, g3, g4⟩ | ⟨g1, tg, g3, g4⟩
    · have hj : j < offs.toList.length := (List.getElem?_eq_some_iff.mp g1).1
      have hxi : x.toInt = lo + (j : Int) := by
        rw [g2]
        exact Int32.toInt_ofInt_of_le (by omega) (by omega)
      exact lv_tableIn hx hb hd (by omega) (by omega) (off := off) (by rw [show (x.toInt - lo).toNat = j by omega, ← Array.getElem?_toList]; exact g1) g3 (hN _ _ _ _ g4 ls H locs hl hP hS hxs)
    · have ho : x.toInt < lo ∨ hi < x.toInt := by
        by_cases hc : x.toInt < lo ∨ hi < x.toInt
        · exact hc
        · exfalso
          refine g1 (x.toInt - lo).toNat (by omega) ?_
          rw [show lo + ((x.toInt - lo).toNat : Int) = x.toInt by omega]
          exact (Int32.ofInt_toInt x).symm
      exact lv_tableOut hx hb hd ho g3 (hN _ _ _ _ g4 ls H locs hl hP hS hxs)
  case getfield cp =>
    cases Nat.eq_of_beq_eq_true hn
    rcases st with _ | ⟨(_ | _ | _ | _ | _ | a | _) | _, t⟩
    case cons.inl.ref =>
      replace h : (match oK a with
        | some q => (match lk (flC (mCl μ)) cp with
          | some f => gd (Nat.beq f.1 q.1) (match q.2[f.2]? with
            | some (some b) => nx (pc + 3) L (pA b :: t) s
            | some none => nx (pc + 3) L (pI (s a f.2) :: t) s
            | none => none)
          | none => none)
        | none => (match sK a with
          | some i => (match lk (sfC (mCl μ)) cp with
            | some true => nx (pc + 3) L (pA (idByt + i) :: t) s
            | some false => nx (pc + 3) L (pI 0 :: t) s
            | none => none)
          | none => none)) = some (r, s') := h
      cases ho : oK a with
      | some q =>
        rw [ho] at h
        dsimp only at h
        cases hf : lk (flC (mCl μ)) cp with
        | none => rw [hf] at h; cases h
        | some f =>
          rw [hf] at h
          dsimp only at h
          obtain ⟨h1, h⟩ := gd_inv h
          obtain ⟨ha, -, -, -, ⟨C, hC1⟩, hfs⟩ := oK_ok ho
          obtain ⟨hul, -, -⟩ := vwCl_ok _ _ hC1
          have hlk : flOK (mCl μ) (cp, f) := flC_ok (mCl μ) hcl _ (lk_mem hf)
          have e1 : f.1 = q.1 := Nat.eq_of_beq_eq_true h1
          have hlk : Cond.fieldLink (cN (mCl μ)) cp (Tv q.1 f.2).1 (Tv q.1 f.2).2.1 (Tv q.1 f.2).2.2.1 ∈ wF := by rw [← e1]; exact hlk
          cases hz : q.2[f.2]? with
          | none => rw [hz] at h; cases h
          | some z =>
            have hlt : f.2 < q.2.length := (List.getElem?_eq_some_iff.mp hz).1
            rw [hz] at h
            have hfz := hfs f.2 hlt
            rw [hz] at hfz
            have he := wl_at (base := base) (cI := cI) (cZ := cZ) (cG := cG) (s := s) ha
            rw [ce_o ho] at he
            rw [List.map_cons, show cv base kv (.inl (.ref a)) = .ref (base + a) from cv_lo ha]
            cases z with
            | some b =>
              have k := hN _ _ _ _ h ls H locs hl hP hS hxs
              rw [List.map_cons, show cv base kv (pA b) = .ref (base + b) from cv_lo hfz] at k
              exact va_get (D := D) hx hb hts hul hown hK hP a he hC1 f.2 hlt (hts _ hlk) (fun _ h9 => h9) (fv_at hz) hd k
            | none =>
              have k := hN _ _ _ _ h ls H locs hl hP hS hxs
              exact va_get (D := D) hx hb hts hul hown hK hP a he hC1 f.2 hlt (hts _ hlk) (fun _ h9 => h9) (fv_at hz) hd k
      | none =>
        rw [ho] at h
        dsimp only at h
        cases hsk : sK a with
        | none => rw [hsk] at h; cases h
        | some i =>
          rw [hsk] at h
          dsimp only at h
          obtain ⟨hi, rfl⟩ := sK_ok hsk
          obtain ⟨-, -, ⟨adK, adV, hVS, hVI⟩, -⟩ := id hC
          obtain ⟨k1', k2', -⟩ := hVI i hi
          obtain ⟨v1, v2, v3, v4⟩ := hVS.1 i hi
          rw [List.map_cons, show cv base kv (.inl (.ref (240 + i))) = .ref (adK i) from by rw [show (Sum.inl (Value.ref (240 + i)) : mV) = pA (240 + i) from rfl, cv_hi (by show ¬ 240 + i < 237; omega), k1']; rfl]
          cases hf : lk (sfC (mCl μ)) cp with
          | none => rw [hf] at h; cases h
          | some b =>
            rw [hf] at h
            have hlk : sfOK (mCl μ) (cp, b) := sfC_ok (mCl μ) hcl _ (lk_mem hf)
            cases b with
            | true =>
              rcases hlk with ⟨-, hlk⟩ | ⟨q0, -⟩
              · have k := hN _ _ _ _ h ls H locs hl hP hS hxs
                rw [List.map_cons, show cv base kv (pA (idByt + i)) = .ref (adV i) from by rw [cv_hi (by show ¬ 252 + i < 237; omega), k2']; rfl] at k
                exact vk_getf hx hb v3 hS hown (hts _ hlk) (fun _ h9 => h9) hd k
              · cases q0
            | false =>
              rcases hlk with ⟨q0, -⟩ | ⟨-, hlk⟩
              · cases q0
              · have k := hN _ _ _ _ h ls H locs hl hP hS hxs
                exact vk_getf hx hb v2 hS hown (hts _ hlk) (fun _ h9 => h9) hd k
    all_goals exact nomatch (show (none : mO) = some _ from h)
  case putfield cp =>
    cases Nat.eq_of_beq_eq_true hn
    rcases st with _ | ⟨(v | _ | _ | _ | _ | _ | _) | _, _ | ⟨(_ | _ | _ | _ | _ | a | _) | _, t⟩⟩
    case cons.inl.int.cons.inl.ref =>
      replace h : (match oK a with
        | some q => (match lk (flC (mCl μ)) cp with
          | some f => gd (Nat.beq f.1 q.1) (match q.2[f.2]? with
            | some none => nx (pc + 3) L t (wr s a f.2 v)
            | _ => none)
          | none => none)
        | none => none) = some (r, s') := h
      cases ho : oK a with
      | none => rw [ho] at h; cases h
      | some q =>
        rw [ho] at h
        dsimp only at h
        cases hf : lk (flC (mCl μ)) cp with
        | none => rw [hf] at h; cases h
        | some f =>
          rw [hf] at h
          dsimp only at h
          obtain ⟨h1, h⟩ := gd_inv h
          obtain ⟨ha, -, -, -, ⟨C, hC1⟩, hfs⟩ := oK_ok ho
          obtain ⟨hul, ⟨ty0, hty⟩, hnm⟩ := vwCl_ok _ _ hC1
          have hlk : flOK (mCl μ) (cp, f) := flC_ok (mCl μ) hcl _ (lk_mem hf)
          have e1 : f.1 = q.1 := Nat.eq_of_beq_eq_true h1
          have hlk : Cond.fieldLink (cN (mCl μ)) cp (Tv q.1 f.2).1 (Tv q.1 f.2).2.1 (Tv q.1 f.2).2.2.1 ∈ wF := by rw [← e1]; exact hlk
          cases hz : q.2[f.2]? with
          | none => rw [hz] at h; cases h
          | some z =>
            have hlt : f.2 < q.2.length := (List.getElem?_eq_some_iff.mp hz).1
            rw [hz] at h
            have hfz := hfs f.2 hlt
            rw [hz] at hfz
            have he := wl_at (base := base) (cI := cI) (cZ := cZ) (cG := cG) (s := s) ha
            rw [ce_o ho] at he
            cases z with
            | some b => exact nomatch (show (none : mO) = some _ from h)
            | none =>
              rw [List.map_cons, List.map_cons, show cv base kv (.inl (.ref a)) = .ref (base + a) from cv_lo ha]
              exact va_put (D := D) (v := .int v) (ty := .int) hx hb hts hul ty0 hty hnm hown hK hP wl_D hS a he hC1 f.2 hlt (hts _ hlk) (fun _ h9 => h9) hfz.2 (by rw [hfz.1]; decide +kernel) rfl rfl (by rw [fv_len]; exact hlt) hd (fun H1 locs1 hP1 _ hS1 => hN _ _ _ _ h ls H1 locs1 hl (wl_ow ho hz hP1) hS1 (keep_wr (oK_no ho) hxs))
    all_goals exact nomatch (show (none : mO) = some _ from h)
  case getstatic cp =>
    cases Nat.eq_of_beq_eq_true hn
    replace h : (match lk (gsC (mCl μ)) cp with
      | some (.inl a) => nx (pc + 3) L (pA a :: st) s
      | some (.inr v) => nx (pc + 3) L (pI v :: st) s
      | none => none) = some (r, s') := h
    cases hf : lk (gsC (mCl μ)) cp with
    | none => rw [hf] at h; cases h
    | some z =>
      rw [hf] at h
      obtain ⟨C, nn, dd, hlk, hZ, hno⟩ := gsC_ok (mCl μ) hcl _ (lk_mem hf)
      have hZ := hZ _ _ _ _ _ _ hC
      cases z with
      | inl a =>
        have k := hN _ _ _ _ h ls H locs hl hP hS hxs
        rw [List.map_cons, show cv base kv (pA a) = va_rf (kv a) from cv_hi (hno a rfl)] at k
        exact va_gets hx hb hZ hS hown (hts _ hlk) (fun _ h9 => h9) hd k
      | inr v =>
        have k := hN _ _ _ _ h ls H locs hl hP hS hxs
        exact va_gets hx hb hZ hS hown (hts _ hlk) (fun _ h9 => h9) hd k
  case ldc cp =>
    cases Nat.eq_of_beq_eq_true hn
    replace h : (match lk (ilC (mCl μ)) cp with
      | some v => nx (pc + 2) L (pI v :: st) s
      | none => (match lk (slC (mCl μ)) cp with
        | some a => nx (pc + 2) L (pA a :: st) s
        | none => none)) = some (r, s') := h
    cases hf : lk (ilC (mCl μ)) cp with
    | some v =>
      rw [hf] at h
      have hlk : ilOK (mCl μ) (cp, v) := ilC_ok (mCl μ) hcl _ (lk_mem hf)
      have k := hN _ _ _ _ h ls H locs hl hP hS hxs
      exact lv_ldc hx hb hown (hts _ hlk) hd k
    | none =>
      rw [hf] at h
      dsimp only at h
      cases hg : lk (slC (mCl μ)) cp with
      | none => rw [hg] at h; cases h
      | some a =>
        rw [hg] at h
        obtain ⟨ec, i, hi, e1, e2⟩ := slC_ok (mCl μ) hcl _ (lk_mem hg)
        dsimp only at e1 e2
        subst e1; subst e2
        obtain ⟨-, -, ⟨adK, adV, hVS, hVI⟩, -⟩ := id hC
        obtain ⟨k1', k2', k3'⟩ := hVI i hi
        have k := hN _ _ _ _ h ls H locs hl hP hS hxs
        rw [List.map_cons, show cv base kv (pA (240 + i)) = .ref (adK i) from by rw [cv_hi (by show ¬ 240 + i < 237; omega), k1']; rfl] at k
        exact va_ldcS hx hb (own := RX4) (by rw [ec] at hown; exact hown) k3' hd k
  case ldc_w cp =>
    cases Nat.eq_of_beq_eq_true hn
    replace h : (match lk (ilC (mCl μ)) cp with
      | some v => nx (pc + 3) L (pI v :: st) s
      | none => none) = some (r, s') := h
    cases hf : lk (ilC (mCl μ)) cp with
    | none => rw [hf] at h; cases h
    | some v =>
      rw [hf] at h
      have hlk : ilOK (mCl μ) (cp, v) := ilC_ok (mCl μ) hcl _ (lk_mem hf)
      have k := hN _ _ _ _ h ls H locs hl hP hS hxs
      exact lv_ldcw hx hb hown (hts _ hlk) hd k
  case ldc2_w cp =>
    cases Nat.eq_of_beq_eq_true hn
    replace h : (match lk (jlC (mCl μ)) cp with
      | some v => nx (pc + 3) L (pJ v :: st) s
      | none => none) = some (r, s') := h
    cases hf : lk (jlC (mCl μ)) cp with
    | none => rw [hf] at h; cases h
    | some v =>
      rw [hf] at h
      have hlk : jlOK (mCl μ) (cp, v) := jlC_ok (mCl μ) hcl _ (lk_mem hf)
      have k := hN _ _ _ _ h ls H locs hl hP hS hxs
      exact lv_ldc2 hx hb hown (hts _ hlk) hd k
  case iaload =>
    cases Nat.eq_of_beq_eq_true hn
    rcases st with _ | ⟨(i | _ | _ | _ | _ | _ | _) | _, _ | ⟨v, t⟩⟩
    case cons.inl.int.cons =>
      replace h : srK v s (fun f k => gd (inb i k) (nx (pc + 1) L (pI (f i.toNatClampNeg) :: t) s)) = some (r, s') := h
      rcases srK_inv base kv h with ⟨a, k, h1, h2, h3⟩ | ⟨a, z, h1, rfl, h3⟩ | ⟨rfl, h3⟩
      · obtain ⟨h4, h5⟩ := gd_inv h3
        have k := hN _ _ _ _ h5 ls H locs hl hP hS hxs
        have he := wl_at (base := base) (cI := cI) (cZ := cZ) (cG := cG) (s := s) (iK_lt h1)
        rw [ce_i h1] at he
        rw [List.map_cons, List.map_cons, h2]
        exact va_iald (D := D) hx hb hK hP a 0 he rfl (inb_in h4) hd k
      · obtain ⟨h4, h5⟩ := gd_inv h3
        obtain ⟨tt, g1, g2⟩ := hC.2.1 a z h1
        have k := hN _ _ _ _ h5 ls H locs hl hP hS hxs
        rw [List.map_cons, List.map_cons, show cv base kv (pA a) = .ref tt from by rw [cv_hi (cK_ok h1), g1]; rfl]
        exact va_ti hx hb g2 hS (inb_in h4) rfl hd k
      · obtain ⟨h4, h5⟩ := gd_inv h3
        obtain ⟨-, -, -, -, b, g1, g2, g3⟩ := id hC
        have k := hN _ _ _ _ h5 ls H locs hl hP hS hxs
        have hbl : b < s0.heap.size := by
          obtain ⟨scr, q1, -⟩ := id g2
          exact (Array.getElem?_eq_some_iff.mp q1).1
        rw [List.map_cons, List.map_cons, show cv base kv (pA idScr) = .ref b from by rw [cv_hi (by decide), g1]; rfl]
        rw [hxs.2] at h4
        rw [List.map_cons, hxs.1] at k
        exact va_sld hx hb g2 hbl g3 hS (inb_in h4) hd k
    all_goals exact nomatch (show (none : mO) = some _ from h)
  case iastore =>
    cases Nat.eq_of_beq_eq_true hn
    rcases st with _ | ⟨(x | _ | _ | _ | _ | _ | _) | _, _ | ⟨(i | _ | _ | _ | _ | _ | _) | _, _ | ⟨v, t⟩⟩⟩
    case cons.inl.int.cons.inl.int.cons =>
      obtain ⟨a, k, h1, h2, h3⟩ := arK_inv base kv h
      obtain ⟨h4, h5⟩ := gd_inv h3
      have he := wl_at (base := base) (cI := cI) (cZ := cZ) (cG := cG) (s := s) (iK_lt h1)
      rw [ce_i h1] at he
      rw [List.map_cons, List.map_cons, List.map_cons, h2]
      exact va_iast (D := D) hx hb hK hP wl_D hS a 0 he rfl (inb_in h4) hd (fun H1 locs1 hP1 _ hS1 => hN _ _ _ _ h5 ls H1 locs1 hl (wl_iw h1 hP1) hS1 (keep_wr (iK_no h1) hxs))
    all_goals exact nomatch (show (none : mO) = some _ from h)
  case baload =>
    cases Nat.eq_of_beq_eq_true hn
    rcases st with _ | ⟨(i | _ | _ | _ | _ | _ | _) | _, _ | ⟨(_ | _ | _ | _ | _ | a | _) | _, t⟩⟩
    case cons.inl.int.cons.inl.ref =>
      replace h : (match zK a with
        | some k => gd (inb i k) (nx (pc + 1) L (pI (s a i.toNatClampNeg) :: t) s)
        | none => (match bK a with
          | some b => gd (inb i (bLen b)) (nx (pc + 1) L (pI (bByt b i.toNatClampNeg) :: t) s)
          | none => none)) = some (r, s') := h
      cases hz : zK a with
      | some k =>
        rw [hz] at h
        obtain ⟨h4, h5⟩ := gd_inv h
        have kk := hN _ _ _ _ h5 ls H locs hl hP hS hxs
        have he := wl_at (base := base) (cI := cI) (cZ := cZ) (cG := cG) (s := s) (zK_ok hz).1
        rw [ce_z hz] at he
        rw [List.map_cons, List.map_cons, show cv base kv (.inl (.ref a)) = .ref (base + a) from cv_lo (zK_ok hz).1]
        exact va_zald (D := D) hx hb hK hP a 1 he rfl (inb_in h4) hd kk
      | none =>
        rw [hz] at h
        dsimp only at h
        cases hbk : bK a with
        | none => rw [hbk] at h; cases h
        | some b =>
          rw [hbk] at h
          obtain ⟨h4, h5⟩ := gd_inv h
          obtain ⟨hi, rfl⟩ := bK_ok hbk
          obtain ⟨-, -, ⟨adK, adV, hVS, hVI⟩, -⟩ := id hC
          obtain ⟨k1', k2', -⟩ := hVI b hi
          obtain ⟨v1, v2, v3, v4⟩ := hVS.1 b hi
          have kk := hN _ _ _ _ h5 ls H locs hl hP hS hxs
          rw [List.map_cons, List.map_cons, show cv base kv (.inl (.ref (idByt + b))) = .ref (adV b) from by rw [show (Sum.inl (Value.ref (idByt + b)) : mV) = pA (idByt + b) from rfl, cv_hi (by show ¬ 252 + b < 237; omega), k2']; rfl]
          exact va_tb hx hb v4 hS (inb_in h4) rfl hd kk
    all_goals exact nomatch (show (none : mO) = some _ from h)
  case bastore =>
    cases Nat.eq_of_beq_eq_true hn
    rcases st with _ | ⟨(x | _ | _ | _ | _ | _ | _) | _, _ | ⟨(i | _ | _ | _ | _ | _ | _) | _, _ | ⟨(_ | _ | _ | _ | _ | a | _) | _, t⟩⟩⟩
    case cons.inl.int.cons.inl.int.cons.inl.ref =>
      replace h : (match zK a with
        | some k => gd (bz x && inb i k) (nx (pc + 1) L t (wr s a i.toNatClampNeg x))
        | none => none) = some (r, s') := h
      cases hz : zK a with
      | none => rw [hz] at h; cases h
      | some k =>
        rw [hz] at h
        obtain ⟨h4, h5⟩ := gd_inv h
        simp only [Bool.and_eq_true] at h4
        have he := wl_at (base := base) (cI := cI) (cZ := cZ) (cG := cG) (s := s) (zK_ok hz).1
        rw [ce_z hz] at he
        rw [List.map_cons, List.map_cons, List.map_cons, show cv base kv (.inl (.ref a)) = .ref (base + a) from cv_lo (zK_ok hz).1]
        exact va_zast (D := D) hx hb hK hP wl_D hS a 1 he rfl (inb_in h4.2) hd (fun H1 locs1 hP1 _ hS1 => hN _ _ _ _ h5 ls H1 locs1 hl (wl_zw hz (by rw [bz_nar h4.1] at hP1; exact hP1)) hS1 (keep_wr (zK_no hz) hxs))
    all_goals exact nomatch (show (none : mO) = some _ from h)
  case aaload =>
    cases Nat.eq_of_beq_eq_true hn
    rcases st with _ | ⟨(i | _ | _ | _ | _ | _ | _) | _, _ | ⟨(_ | _ | _ | _ | _ | g | _) | _, t⟩⟩
    case cons.inl.int.cons.inl.ref =>
      replace h : (match gK g with
        | some q => gd (inb i q.1) (nx (pc + 1) L (.inr (g, i.toNatClampNeg) :: t) s)
        | none => none) = some (r, s') := h
      cases hg : gK g with
      | none => rw [hg] at h; cases h
      | some q =>
        rw [hg] at h
        obtain ⟨h4, h5⟩ := gd_inv h
        have hin := inb_in h4
        have hlt : i.toNatClampNeg < q.1 := Nat.not_le.mp fun z => hin (Or.inr z)
        have kk := hN _ _ _ _ h5 ls H locs hl hP hS hxs
        have he := wl_at (base := base) (cI := cI) (cZ := cZ) (cG := cG) (s := s) (gK_ok hg).1
        rw [ce_g hg] at he
        rw [List.map_cons, List.map_cons, show cv base kv (.inl (.ref g)) = .ref (base + g) from cv_lo (gK_ok hg).1]
        refine W.aald (v := .ref (base + (g + 1 + i.toNatClampNeg))) (ty := .array .int) hx hb (hP g _ he) ((hK.2 2 (cG, .array .int) rfl).1 q.1 (fun j => va_rf (if j < q.1 then some (base + (g + 1 + j)) else none))) rfl (fun z => by cases z) (by show ¬ (i < 0 ∨ (arrV _ _ _).slots.size ≤ _); rw [arrV_size]; exact hin) (by show (arrV _ _ _).slots[_]? = _; rw [arrV_read _ _ hlt]; show some (va_rf (if i.toNatClampNeg < q.1 then _ else _)) = _; rw [if_pos hlt]; rfl) rfl rfl hd kk
    all_goals exact nomatch (show (none : mO) = some _ from h)
  case arraylength =>
    cases Nat.eq_of_beq_eq_true hn
    cases st with
    | nil => exact nomatch (show (none : mO) = some _ from h)
    | cons v t =>
      replace h : lenK v s (fun k => nx (pc + 1) L (pI k :: t) s) = some (r, s') := h
      rcases lenK_inv base kv h with ⟨a, k, h1, h2, h3⟩ | ⟨a, i, h1, rfl, h3⟩ | ⟨rfl, h3⟩
      · have kk := hN _ _ _ _ h3 ls H locs hl hP hS hxs
        have he := wl_at (base := base) (cI := cI) (cZ := cZ) (cG := cG) (s := s) (iK_lt h1)
        rw [ce_i h1] at he
        rw [List.map_cons, h2]
        exact va_alen (D := D) hx hb hK hP a 0 he (ty := .int) rfl rfl hd kk
      · obtain ⟨hi, rfl⟩ := bK_ok h1
        obtain ⟨-, -, ⟨adK, adV, hVS, hVI⟩, -⟩ := id hC
        obtain ⟨k1', k2', -⟩ := hVI i hi
        obtain ⟨v1, v2, v3, v4⟩ := hVS.1 i hi
        have kk := hN _ _ _ _ h3 ls H locs hl hP hS hxs
        rw [List.map_cons, show cv base kv (pA (idByt + i)) = .ref (adV i) from by rw [cv_hi (by show ¬ 252 + i < 237; omega), k2']; rfl]
        exact va_tlen hx hb v4 hS rfl hd kk
      · obtain ⟨-, -, -, -, b, g1, g2, g3⟩ := id hC
        have kk := hN _ _ _ _ h3 ls H locs hl hP hS hxs
        have hbl : b < s0.heap.size := by
          obtain ⟨scr, q1, -⟩ := id g2
          exact (Array.getElem?_eq_some_iff.mp q1).1
        rw [List.map_cons, show cv base kv (pA idScr) = .ref b from by rw [cv_hi (by decide), g1]; rfl]
        rw [List.map_cons, hxs.2] at kk
        exact va_slen hx hb g2 hbl g3 hS hd kk
  case invokevirtual cp =>
    cases Nat.eq_of_beq_eq_true hn
    replace h : (match lk (mlC (mCl μ)) cp with
      | some ν => gd (!(mSa ν)) (ppN (mAr ν) st fun as r => (match as with
        | v :: _ => gd (rcvOK ν v) (callK nx cl μ ν pc L s as r)
        | [] => none))
      | none => none) = some (r, s') := h
    cases hf : lk (mlC (mCl μ)) cp with
    | none => rw [hf] at h; cases h
    | some ν =>
      rw [hf] at h
      obtain ⟨h1, h'⟩ := gd_inv h
      obtain ⟨as, rr, e1, est, h2'⟩ := ppN_inv h'
      clear h h'
      subst est
      cases as with
      | nil => cases h2'
      | cons v as =>
        have h : gd (rcvOK ν v) (callK nx cl μ ν pc L s (v :: as) rr) = some (r, s') := h2'
        clear h2'
        obtain ⟨h2, h⟩ := gd_inv h
        obtain ⟨hrm, hcat, hslen, r1, s1, h3, h4⟩ := callK_inv h
        obtain ⟨hOK, hlk⟩ : mlOK (mCl μ) (cp, ν) := mlC_ok (mCl μ) hcl _ (lk_mem hf)
        obtain ⟨o1, o2, o3, o4, o5, o6, o7⟩ := id hOK
        have hsa : mSa ν = false := by simpa using h1
        obtain ⟨⟨w1, w2⟩, w3⟩ := o5 hsa
        obtain ⟨hkeep, hMet⟩ := hCl ν (v :: as) s r1 s1 hOK hslen hxs h3
        have hlk : Cond.methodLink (cN (mCl μ)) cp (mNm ν) ∈ wF := by
          rcases hlk with hlk | ⟨-, -, e3⟩
          · exact hlk
          · exfalso
            have e3 : ν = _ := e3
            rw [e3] at hsa
            exact absurd hsa (by decide)
        have hrecv : ∃ bb, cv base kv v = .ref bb ∧ ∃ cell : Cell, H[bb]? = some cell ∧ cell.vm.isStatics = false ∧ s0.vm.findClass (mNm ν).cls = some cell.cls := by
          clear h h3 h4 hMet hslen
          rcases v with (_ | _ | _ | _ | _ | a | _) | _
          case inl.ref =>
            replace h2 : (match oK a with
              | some q => Nat.beq q.1 (mCl ν)
              | none => (match sK a with
                | some _ => Nat.beq (mCl ν) ciStr
                | none => false)) = true := h2
            cases ho : oK a with
            | some q =>
              rw [ho] at h2
              obtain ⟨ha, -, -, -, ⟨C, hC1⟩, -⟩ := oK_ok ho
              have he := wl_at (base := base) (cI := cI) (cZ := cZ) (cG := cG) (s := s) ha
              rw [ce_o ho] at he
              refine ⟨base + a, cv_lo ha, ?_⟩
              have := va_recv hK hP hC1 he
              rw [show (mNm ν).cls = C from by rw [show (mNm ν).cls = cN (mCl ν) from o7, ← Nat.eq_of_beq_eq_true h2]; exact (vwCl_cN _ _ hC1).symm]
              exact this
            | none =>
              rw [ho] at h2
              dsimp only at h2
              cases hsk : sK a with
              | none => rw [hsk] at h2; cases h2
              | some i =>
                rw [hsk] at h2
                obtain ⟨hi, rfl⟩ := sK_ok hsk
                obtain ⟨-, -, ⟨adK, adV, hVS, hVI⟩, -⟩ := id hC
                obtain ⟨k1', k2', -⟩ := hVI i hi
                refine ⟨adK i, by rw [show (Sum.inl (Value.ref (240 + i)) : mV) = pA (240 + i) from rfl, cv_hi (by show ¬ 240 + i < 237; omega), k1']; rfl, ?_⟩
                rw [show (mNm ν).cls = "java/lang/String" from by rw [show (mNm ν).cls = cN (mCl ν) from o7, Nat.eq_of_beq_eq_true h2]; rfl]
                exact vk_recv hVS hi hS
          all_goals cases h2
        obtain ⟨bb, hbb, hcell⟩ := hrecv
        have hst : ((v :: as).reverse ++ rr).map (cv base kv) = (as.map (cv base kv)).reverse ++ Value.ref bb :: rr.map (cv base kv) := by
          simp [hbb, List.map_reverse]
        rw [hst]
        have e0 : (parseMethodDescriptor (mNm ν).desc).map (fun d => d.parameters.length) = some as.length := by
          revert w3
          show (parseMethodDescriptor (mNm ν).desc).map (fun d => d.parameters.length + 1) = some (mAr ν) → _
          rw [← e1]
          cases parseMethodDescriptor (mNm ν).desc with
          | none => intro q; cases q
          | some dd =>
            intro q
            have q : dd.parameters.length + 1 = (v :: as).length := Option.some.inj q
            show some dd.parameters.length = some as.length
            rw [List.length_cons] at q
            congr 1
            omega
        have hW8 : (((rr.map (cv base kv)).map fun v => v.category).sum) ≤ 8 := by rw [cv_cats]; exact hcat
        refine mv_call (r := r1) (s' := s1) (a := (Value.ref bb :: as.map (cv base kv)).toArray) (va_runV (C := (mNm ν).cls) (As := as.map (cv base kv)) (rest := rr.map (cv base kv)) (n := as.length) (Ts := wF) (own := cN (mCl μ)) (index := cp) (bytes := mBy ν) (maxL := mMx ν) (ret := mRt ν) ⟨hx, hb, hml, hown, hts⟩ hMet (cwV as.length hts (wF_good (fun w hw => ?_)) rfl rfl rfl ⟨rfl, o6.1, o6.2, e0⟩ ⟨Nat.le_trans hrm.1 hRf, Nat.le_trans hrm.2 hRl⟩) ⟨mPc_blind, hcell, fun U hU hW => ?_⟩ rfl (by simp) hl.1 rfl (lv_room hW8) hd ⟨by omega, by omega⟩) hS (fun q h => h) (fun H1 locs1 hP1 hS1 => ?_)
        · unfold wsV at hw
          simp only [List.cons_append, List.nil_append, List.mem_cons] at hw
          rcases hw with rfl | rfl | rfl | rfl | rfl | hw
          · exact hlk
          · exact w1
          · exact w2
          · exact o3
          · exact o1
          · exact hw
        · have := pre_ok (as := v :: as) (s := s) hK hC hP hS hU hW
          rw [List.map_cons, hbb] at this
          exact this
        · have kk := hN _ _ _ _ h4 ls H1 locs1 hl hP1 hS1 hkeep
          rw [List.map_append] at kk
          have e9 : (r1.toList).map (cv base kv) = (r1.map (cv base kv)).toList := by cases r1 <;> rfl
          rw [e9] at kk
          exact kk
  case invokestatic cp =>
    cases Nat.eq_of_beq_eq_true hn
    replace h : (match lk (mlC (mCl μ)) cp with
      | some ν => gd (mSa ν) (ppN (mAr ν) st fun as r => callK nx cl μ ν pc L s as r)
      | none => (match lk (acC (mCl μ)) cp with
        | some _ => (match (generalizing := false) st with
          | .inl (.int k) :: .inl (.int dp) :: vd :: .inl (.int sp) :: vs :: r => arK vd fun d nd => crK vs s fun f ns => gd (Nat.ble 1 (mFr μ) && (Nat.ble (catS r + 18) (mLo μ) && cpOK sp dp k ns nd)) (nx (pc + 3) L r (cpw s d f sp.toNatClampNeg dp.toNatClampNeg k.toNatClampNeg))
          | _ => none)
        | none => (match lk (mmC (mCl μ)) cp with
          | some 0 => k1 st fun x r => gd (Nat.ble 1 (mFr μ) && Nat.ble (catS r + 13) (mLo μ)) (nx (pc + 3) L (pI (jAbs x) :: r) s)
          | some 1 => k2 st fun x y r => gd (Nat.ble 1 (mFr μ) && Nat.ble (catS r + 13) (mLo μ)) (nx (pc + 3) L (pI (jMax x y) :: r) s)
          | some 2 => k2 st fun x y r => gd (Nat.ble 1 (mFr μ) && Nat.ble (catS r + 13) (mLo μ)) (nx (pc + 3) L (pI (jMin x y) :: r) s)
          | _ => none))) = some (r, s') := h
    cases hf : lk (mlC (mCl μ)) cp with
    | some ν =>
      rw [hf] at h
      obtain ⟨h1, h'⟩ := gd_inv h
      obtain ⟨as, rr, e1, est, h2'⟩ := ppN_inv h'
      clear h h'
      subst est
      have h : callK nx cl μ ν pc L s as rr = some (r, s') := h2'
      clear h2'
      obtain ⟨hrm, hcat, hslen, r1, s1, h3, h4⟩ := callK_inv h
      obtain ⟨hOK, hlk⟩ : mlOK (mCl μ) (cp, ν) := mlC_ok (mCl μ) hcl _ (lk_mem hf)
      obtain ⟨o1, o2, o3, o4, o5, o6, o7⟩ := id hOK
      obtain ⟨w1, w3⟩ := o4 h1
      obtain ⟨hkeep, hMet⟩ := hCl ν as s r1 s1 hOK hslen hxs h3
      have hst : (as.reverse ++ rr).map (cv base kv) = (as.map (cv base kv)).reverse ++ rr.map (cv base kv) := by
        simp [List.map_reverse]
      rw [hst]
      have e0 : (parseMethodDescriptor (mNm ν).desc).map (fun d => d.parameters.length) = some as.length := by rw [e1]; exact w3
      have hW8 : (((rr.map (cv base kv)).map fun v => v.category).sum) ≤ 8 := by rw [cv_cats]; exact hcat
      have fin : ∀ (H1 : Heap) (locs1 : List Loc), va_P D vwCl (wl base cI cZ cG s1) H1 → va_S (Ab base) s0.heap H1 locs1 → W p l e R s0 m args below meth c H1 locs1 cells slots Q (F0 m (pc + 3) ls ((r1.map (cv base kv)).toList ++ rr.map (cv base kv))) := by
        intro H1 locs1 hP1 hS1
        have kk := hN _ _ _ _ h4 ls H1 locs1 hl hP1 hS1 hkeep
        rw [List.map_append] at kk
        have e9 : (r1.toList).map (cv base kv) = (r1.map (cv base kv)).toList := by cases r1 <;> rfl
        rw [e9] at kk
        exact kk
      have hR' : (mRoom ν).frames + 1 ≤ R.frames ∧ 8 + (mMx ν + 11) + (mRoom ν).locals ≤ R.locals := ⟨Nat.le_trans hrm.1 hRf, Nat.le_trans hrm.2 hRl⟩
      rcases hlk with hlk | ⟨q1, q2, q3⟩
      · refine mv_call (r := r1) (s' := s1) (a := (as.map (cv base kv)).toArray) (va_runS (As := as.map (cv base kv)) (rest := rr.map (cv base kv)) (n := as.length) (Ts := wF) (own := cN (mCl μ)) (index := cp) (bytes := mBy ν) (maxL := mMx ν) (ret := mRt ν) ⟨hx, hb, hml, hown, hts⟩ hMet (va_cwS as.length hts (wF_good (fun w hw => ?_)) rfl rfl rfl ⟨o6.1, o6.2, e0⟩ hR') ⟨mPc_blind, fun U hU hW => pre_ok hK hC hP hS hU hW⟩ rfl (by simp) hl.1 rfl (lv_room hW8) hd ⟨by omega, by omega⟩) hS (fun q h => h) fin
        unfold va_wsS at hw
        simp only [List.cons_append, List.nil_append, List.mem_cons] at hw
        rcases hw with rfl | rfl | rfl | rfl | hw
        · exact hlk
        · exact w1
        · exact o3
        · exact o1
        · exact hw
      · dsimp only at q2 q3
        subst q2; subst q3
        obtain ⟨-, -, -, hNw, -⟩ := id hC
        have hown' : s0.vm.findClass RX4 = some m.cls := by rw [q1] at hown; exact hown
        refine mv_call (r := r1) (s' := s1) (a := (as.map (cv base kv)).toArray) (va_runSN (As := as.map (cv base kv)) (rest := rr.map (cv base kv)) (n := as.length) (Ts := wF) (own := RX4) (host := "LandLines") (index := 26) ⟨hx, hb, hml, hown', hts⟩ hMet ⟨va_cnB as.length hts (wF_good (fun w hw => ?_)) rfl rfl rfl hNw (hts _ o3) ⟨o6.1, o6.2, e0⟩ hR', hts _ w1, trivial⟩ ⟨mPc_blind, fun U hU hW => pre_ok hK hC hP hS hU hW⟩ rfl (by simp) hl.1 rfl (lv_room hW8) hd ⟨by omega, by omega⟩) hS (fun q h => h) fin
        rcases List.mem_cons.mp hw with rfl | hw
        · exact o1
        · exact hw
    | none =>
      rw [hf] at h
      dsimp only at h
      have hRf1 : ∀ {z : Nat}, Nat.ble 1 (mFr μ) = true → 1 ≤ R.frames := fun q => Nat.le_trans (Nat.le_of_ble_eq_true q) hRf
      have hml' : c.maxLocals = ls.size := by rw [hml]; exact hl.1.symm
      cases hg : lk (acC (mCl μ)) cp with
      | some z =>
        rw [hg] at h
        have hlk : acOK (mCl μ) (cp, z) := acC_ok (mCl μ) hcl _ (lk_mem hg)
        obtain ⟨ww1, ww2, ww3⟩ := acw
        dsimp only at h
        split at h
        next kk dp vd sp vs rr =>
          obtain ⟨d, nd, g1, g2, h⟩ := arK_inv base kv h
          have he1 := wl_at (base := base) (cI := cI) (cZ := cZ) (cG := cG) (s := s) (iK_lt g1)
          rw [ce_i g1] at he1
          rcases crK_inv base kv h with ⟨a, ns, k1', k2', h5⟩ | ⟨a, zz, k1', ev, h5⟩
          · obtain ⟨h1, h⟩ := gd_inv h5
            simp only [cpOK, Bool.and_eq_true, Bool.not_eq_true', decide_eq_false_iff_not] at h1
            obtain ⟨f1, f2, c1, c2, c3, c4, c5⟩ := h1
            have he0 := wl_at (base := base) (cI := cI) (cZ := cZ) (cG := cG) (s := s) (iK_lt k1')
            rw [ce_i k1'] at he0
            have f2' := Nat.le_of_ble_eq_true f2
            rw [List.map_cons, List.map_cons, List.map_cons, List.map_cons, List.map_cons, g2, k2']
            exact va_copyi (D := D) hx hb hml' hown (hts _ hlk) (hts _ ww1) (hts _ ww2) (hts _ ww3) hK hP wl_D hS a d 0 0 (ty := .int) he0 he1 rfl rfl rfl c1 c2 c3 (Nat.le_of_ble_eq_true c4) (Nat.le_of_ble_eq_true c5) (fun _ _ => rfl) (hRf1 (z := 0) f1) (by rw [cv_cats]; show catS rr + (7 + 11) ≤ _; omega) hd (fun H1 locs1 hP1 _ hS1 => hN _ _ _ _ h ls H1 locs1 hl (wl_cw g1 hP1) hS1 (keep_cpw (iK_no g1) hxs))
          · clear h
            subst ev
            obtain ⟨h1, h⟩ := gd_inv h5
            simp only [cpOK, Bool.and_eq_true, Bool.not_eq_true', decide_eq_false_iff_not] at h1
            obtain ⟨f1, f2, c1, c2, c3, c4, c5⟩ := h1
            have f2' := Nat.le_of_ble_eq_true f2
            obtain ⟨tt, y1, y2⟩ := hC.2.1 a zz k1'
            rw [List.map_cons, List.map_cons, List.map_cons, List.map_cons, List.map_cons, g2, show cv base kv (pA a) = .ref tt from by rw [cv_hi (cK_ok k1'), y1]; rfl]
            exact mv_copyt (D := D) hx hb hml' hown (hts _ hlk) (hts _ ww1) (hts _ ww2) (hts _ ww3) hK hP wl_D hS y2 d 0 he1 rfl c1 c2 c3 (Nat.le_of_ble_eq_true c4) (Nat.le_of_ble_eq_true c5) (hRf1 (z := 0) f1) (by rw [cv_cats]; show catS rr + (7 + 11) ≤ _; omega) hd (fun H1 locs1 hP1 _ hS1 => hN _ _ _ _ h ls H1 locs1 hl (wl_cw g1 hP1) hS1 (keep_cpw (iK_no g1) hxs))
        next => cases h
      | none =>
        rw [hg] at h
        dsimp only at h
        cases hm : lk (mmC (mCl μ)) cp with
        | none => rw [hm] at h; cases h
        | some z =>
          rw [hm] at h
          have hlk : mmOK (mCl μ) (cp, z) := mmC_ok (mCl μ) hcl _ (lk_mem hm)
          match z, h, hlk with
          | 0, h, hlk =>
            obtain ⟨x, t, rfl, h⟩ := k1_inv h
            obtain ⟨h1, h⟩ := gd_inv h
            simp only [Bool.and_eq_true] at h1
            have f2' := Nat.le_of_ble_eq_true h1.2
            have k := hN _ _ _ _ h ls H locs hl hP hS hxs
            exact va_mabs hx hb hml' hown (hts _ hlk) (hts _ mmw0.1) (hts _ mmw0.2.1) (hts _ mmw0.2.2) (hRf1 (z := 0) h1.1) (by rw [cv_cats]; omega) hcs1 hcs2 hd k
          | 1, h, hlk =>
            obtain ⟨x, y, t, rfl, h⟩ := k2_inv h
            obtain ⟨h1, h⟩ := gd_inv h
            simp only [Bool.and_eq_true] at h1
            have f2' := Nat.le_of_ble_eq_true h1.2
            have k := hN _ _ _ _ h ls H locs hl hP hS hxs
            exact va_mmax hx hb hml' hown (hts _ hlk) (hts _ mmw1.1) (hts _ mmw1.2.1) (hts _ mmw1.2.2) (hRf1 (z := 0) h1.1) (by rw [cv_cats]; omega) hcs1 hcs2 hd k
          | 2, h, hlk =>
            obtain ⟨x, y, t, rfl, h⟩ := k2_inv h
            obtain ⟨h1, h⟩ := gd_inv h
            simp only [Bool.and_eq_true] at h1
            have f2' := Nat.le_of_ble_eq_true h1.2
            have k := hN _ _ _ _ h ls H locs hl hP hS hxs
            exact va_mmin hx hb hml' hown (hts _ hlk) (hts _ mmw2.1) (hts _ mmw2.2.1) (hts _ mmw2.2.2) (hRf1 (z := 0) h1.1) (by rw [cv_cats]; omega) hcs1 hcs2 hd k
          | z + 3, h, hlk => exact nomatch (show (none : mO) = some _ from h)
  case ireturn =>
    cases Nat.eq_of_beq_eq_true hn
    rcases st with _ | ⟨(v | _ | _ | _ | _ | _ | _) | _, _ | ⟨w, t⟩⟩
    case cons.inl.int.nil =>
      obtain ⟨h1, h⟩ := gd_inv h
      have e1 := Option.some.inj h
      have e2 : r = some (pI v) := (congrArg Prod.fst e1).symm
      have e3 : s' = s := (congrArg Prod.snd e1).symm
      subst e3
      exact (hRet pc ls H locs hP hS).1 v e2 hd h1
    all_goals exact nomatch (show (none : mO) = some _ from h)
  case areturn =>
    cases Nat.eq_of_beq_eq_true hn
    rcases st with _ | ⟨(_ | _ | _ | _ | _ | a | _) | _, _ | ⟨w, t⟩⟩
    case cons.inl.ref.nil =>
      replace h : (match mRt μ with
        | some (.object _) => some (some (pA a), s)
        | _ => none) = some (r, s') := h
      split at h
      next nm ert =>
        have e1 := Option.some.inj h
        have e2 : r = some (pA a) := (congrArg Prod.fst e1).symm
        have e3 : s' = s := (congrArg Prod.snd e1).symm
        subst e3
        exact (hRet pc ls H locs hP hS).2.1 a nm e2 hd ert
      next => cases h
    all_goals exact nomatch (show (none : mO) = some _ from h)
  case return_ =>
    cases Nat.eq_of_beq_eq_true hn
    cases st with
    | cons w t => exact nomatch (show (none : mO) = some _ from h)
    | nil =>
      replace h : (match mRt μ with
        | none => some (none, s)
        | _ => none) = some (r, s') := h
      split at h
      next ert =>
        have e1 := Option.some.inj h
        have e2 : r = none := (congrArg Prod.fst e1).symm
        have e3 : s' = s := (congrArg Prod.snd e1).symm
        subst e3
        exact (hRet pc ls H locs hP hS).2.2 e2 hd ert
      next => cases h
  all_goals exact nomatch (show (none : mO) = some _ from h)
end SIM
theorem narB_ok {ty : FieldType} {v : Int32} (h : narB (some ty) v = true) : narrow ty (.int v) = .int v := by
  unfold narB at h
  split at h
  next e => cases e; rfl
  next e =>
    cases e
    unfold bz at h
    simp only [Bool.or_eq_true, decide_eq_true_eq] at h
    rcases h with rfl | rfl <;> rfl
  next e => cases e; simpa using h
  next e => cases e
theorem mCl_lt (μ : Nat) : mCl μ < 19 := mI_cl μ
/-- ALL RUNS -/
theorem run_sim (l : Launch) {D : va_G} {base : Nat} {kv : Nat → Option Nat} {cI cZ cG : ClassId} {xs : Nat → Int32} {nS : Nat} : ∀ (n : Nat) (p : Program) (e : Env) (R : Room) (s0 : State) (m : MethodId) (args : Array Value) (below : List Frame) (meth : Method) (c : Code) (cells slots : Nat) (Q : State → Prop) (μ pc : Nat) (L : mL) (st : List mV) (s : mSt) (r : Option mV) (s' : mSt),
    run n μ pc L st s = some (r, s') → mCx p R s0 m args c cells slots D base kv cI cZ cG xs nS μ → mRh p l e R s0 m args below meth c cells slots Q D base kv cI cZ cG μ r s' → mG p l e R s0 m args below meth c cells slots Q D base kv cI cZ cG xs nS (mMx μ) pc L st s := by
  intro n
  induction n with
  | zero => intro p e R s0 m args below meth c cells slots Q μ pc L st s r s' h; cases h
  | succ n ih =>
    intro p e R s0 m args below meth c cells slots Q μ pc L st s r s' h hCx hRet
    have h : stK (fun pc' L' st' s1 => match lk (cutC μ) pc' with
      | some mm => run n μ pc' (maskL mm L') st' s1
      | none => run n μ pc' L' st' s1) (fun ν L' s1 => run n ν 0 L' [] s1) μ pc L st s = some (r, s') := h
    unfold stK at h
    cases hi : ins μ pc with
    | none => rw [hi] at h; cases h
    | some q =>
      rw [hi] at h
      obtain ⟨h1, h⟩ := gd_inv h
      refine exI_sim hCx (fun pc' L' st' s1 h2 => ?_) (fun ν as s1 r1 s2 hOK hlen hk h2 => ?_) hRet (mdec hi) h1 h
      · have h2 : (match lk (cutC μ) pc' with
          | some mm => run n μ pc' (maskL mm L') st' s1
          | none => run n μ pc' L' st' s1) = some (r, s') := h2
        cases hc : lk (cutC μ) pc' with
        | none =>
          rw [hc] at h2
          exact ih p e R s0 m args below meth c cells slots Q μ pc' L' st' s1 r s' h2 hCx hRet
        | some mm =>
          rw [hc] at h2
          intro ls H locs hl hP hS hxs
          exact ih p e R s0 m args below meth c cells slots Q μ pc' (maskL mm L') st' s1 r s' h2 hCx hRet ls H locs (LR_mask mm hl) hP hS hxs
      · have h2 : run n ν 0 (argL (mMx ν) as) [] s1 = some (r1, s2) := h2
        have hkp : KP (s1 idScr) (s1 idLen) s2 := run_PK (xs := s1 idScr) (ys := s1 idLen) n ν 0 (argL (mMx ν) as) [] s1 ⟨rfl, rfl⟩ _ h2
        refine ⟨⟨by rw [hkp.1]; exact hk.1, by rw [hkp.2]; exact hk.2⟩, ?_⟩
        obtain ⟨o1, o2, o3, o4, o5, o6, o7⟩ := id hOK
        refine Met.ofW (cc := mBy ν) (maxL := mMx ν) (ret := mRt ν) o2 rfl ?_
        intro p2 e2 s02 m2 args2 below2 meth2 c2 s12 B hml2 hv
        obtain ⟨rfl, hP2, hK2, hC2⟩ := hv
        have hts2 := atoms_spec (ws := Cond.code (mNm ν) (mBy ν) (mMx ν) (mRt ν) :: wF) B.pre
        have hown2 : s02.vm.findClass (cN (mCl ν)) = some m2.cls := by
          have := findClass_of_methodNamed B.named
          rw [show (mNm ν).cls = cN (mCl ν) from o7] at this
          exact this
        have hlocks := B.notSynchronized
        have hr2 := B.returns
        have hx2 := B.exec
        have hb2 := B.bytes
        rw [lg_entry_eq]
        refine ih p2 e2 (mRoom ν) s02 m2 _ below2 meth2 c2 0 0 _ ν 0 (argL (mMx ν) as) [] s1 r1 s2 h2 ⟨hx2, hb2, hml2, ?_, hown2, fun w hw => hts2 w (List.mem_cons_of_mem _ hw), hK2, hC2, Nat.le_refl _, Nat.le_refl _, Nat.zero_le _, Nat.zero_le _⟩ ?_ _ s02.heap [] (LR_entry as hlen) hP2 va_S.rf hk
        · exact mCl_lt ν
        · intro pcR ls H locs hPR hSR
          refine ⟨fun v e1 hdR hnB => ?_, fun a nm e1 hdR hRt => ?_, fun e1 hdR hRt => ?_⟩
          · have hq : ∀ t : State, t.heap = H → s02.WarmedH t.vm → mQc base kv cI cZ cG D r1 s2 (as.map (cv base kv)).toArray s02 (.returned (some (.int v))) t := fun t ht _ => ⟨⟨by rw [e1]; rfl, by rw [ht]; exact hPR⟩, hSR.F ht⟩
            revert hr2 hnB
            cases hrt : mRt ν with
            | none => intro _ q; cases q
            | some ty =>
              intro hr2 hnB
              exact W.zret hx2 hb2 hr2 (narB_ok hnB) hq hSR.2.2 hdR
          · have hq : ∀ t : State, t.heap = H → s02.WarmedH t.vm → mQc base kv cI cZ cG D r1 s2 (as.map (cv base kv)).toArray s02 (.returned (some (cv base kv (pA a)))) t := fun t ht _ => ⟨⟨by rw [e1]; rfl, by rw [ht]; exact hPR⟩, hSR.F ht⟩
            exact W.aret hx2 hb2 (hr2.trans hRt) (Or.inl ⟨nm, rfl⟩) (cv_rf base kv a) hq hSR.2.2 hdR
          · have hq : ∀ t : State, t.heap = H → s02.WarmedH t.vm → mQc base kv cI cZ cG D r1 s2 (as.map (cv base kv)).toArray s02 (.returned none) t := fun t ht _ => ⟨⟨by rw [e1]; rfl, by rw [ht]; exact hPR⟩, hSR.F ht⟩
            exact W.vret hx2 hb2 (hr2.trans hRt) hq hSR.2.2 hdR
theorem EV_sim (l : Launch) {D : va_G} {base : Nat} {kv : Nat → Option Nat} {cI cZ cG : ClassId} {xs : Nat → Int32} {nS : Nat} {p : Program} {e : Env} {R : Room} {s0 : State} {m : MethodId} {args : Array Value} {below : List Frame} {meth : Method} {c : Code} {cells slots : Nat} {Q : State → Prop} {μ pc : Nat} {L : mL} {st : List mV} {s : mSt} {r : Option mV} {s' : mSt}
    (h : EV μ pc L st s = some (r, s')) (hCx : mCx p R s0 m args c cells slots D base kv cI cZ cG xs nS μ) (hRet : mRh p l e R s0 m args below meth c cells slots Q D base kv cI cZ cG μ r s') : mG p l e R s0 m args below meth c cells slots Q D base kv cI cZ cG xs nS (mMx μ) pc L st s := by
  obtain ⟨n, hn⟩ := EV_iff.mp h
  exact run_sim l n p e R s0 m args below meth c cells slots Q μ pc L st s r s' hn hCx hRet
