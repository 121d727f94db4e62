/-! THE LIMIT OF ALL RUNS: CT a b: a is the limit of the rising chain b -/
def CT (a : mO) (b : Nat → mO) : Prop := (∀ n r, b n = some r → b (n + 1) = some r) ∧ (∀ n r, b n = some r → a = some r) ∧ ∀ r, a = some r → ∃ n, b n = some r
theorem ct_up {a : mO} {b : Nat → mO} (h : CT a b) {n m : Nat} (hm : n ≤ m) {r : mR} (hr : b n = some r) : b m = some r := by
  obtain ⟨k, rfl⟩ := Nat.le.dest hm
  induction k with
  | zero => exact hr
  | succ k ih => exact h.1 _ _ (ih (Nat.le_add_right _ _))
theorem ct_c {a : mO} : CT a (fun _ => a) := ⟨fun _ _ h => h, fun _ _ h => h, fun _ h => ⟨0, h⟩⟩
theorem ct_gd {b : Bool} {a : mO} {f : Nat → mO} (h : CT a f) : CT (gd b a) (fun n => gd b (f n)) := by
  cases b
  · exact ct_c
  · exact h
theorem ct_ite {c : Prop} [Decidable c] {a b : mO} {f g : Nat → mO} (h : CT a f) (k : CT b g) : CT (if c then a else b) (fun n => if c then f n else g n) := by
  by_cases hc : c
  · simp only [if_pos hc]; exact h
  · simp only [if_neg hc]; exact k
theorem ct_bI {o : mO} {f : Nat → mO} {k : Int32 → mSt → mO} {g : Nat → Int32 → mSt → mO} (h : CT o f) (hk : ∀ v s, CT (k v s) (fun n => g n v s)) : CT (bI o k) (fun n => bI (f n) (g n)) := by
  have key : ∀ (o : mO) (k : Int32 → mSt → mO) (r : mR), bI o k = some r ↔ ∃ v s, o = some (some (pI v), s) ∧ k v s = some r := by
    intro o k r
    constructor
    · intro e
      unfold bI at e
      split at e
      next v s => exact ⟨v, s, rfl, e⟩
      next => cases e
    · rintro ⟨v, s, rfl, e⟩
      exact e
  refine ⟨fun n r e => ?_, fun n r e => ?_, fun r e => ?_⟩
  · obtain ⟨v, s, h1, h2⟩ := (key _ _ _).mp e
    exact (key _ _ _).mpr ⟨v, s, h.1 _ _ h1, (hk v s).1 _ _ h2⟩
  · obtain ⟨v, s, h1, h2⟩ := (key _ _ _).mp e
    exact (key _ _ _).mpr ⟨v, s, h.2.1 _ _ h1, (hk v s).2.1 _ _ h2⟩
  · obtain ⟨v, s, h1, h2⟩ := (key _ _ _).mp e
    obtain ⟨n, hn⟩ := h.2.2 _ h1
    obtain ⟨m, hm⟩ := (hk v s).2.2 _ h2
    exact ⟨max n m, (key _ _ _).mpr ⟨v, s, ct_up h (Nat.le_max_left _ _) hn, ct_up (hk v s) (Nat.le_max_right _ _) hm⟩⟩
theorem ct_bV {o : mO} {f : Nat → mO} {k : mSt → mO} {g : Nat → mSt → mO} (h : CT o f) (hk : ∀ s, CT (k s) (fun n => g n s)) : CT (bV o k) (fun n => bV (f n) (g n)) := by
  have key : ∀ (o : mO) (k : mSt → mO) (r : mR), bV o k = some r ↔ ∃ s, o = some (none, s) ∧ k s = some r := by
    intro o k r
    constructor
    · intro e
      unfold bV at e
      split at e
      next s => exact ⟨s, rfl, e⟩
      next => cases e
    · rintro ⟨s, rfl, e⟩
      exact e
  refine ⟨fun n r e => ?_, fun n r e => ?_, fun r e => ?_⟩
  · obtain ⟨s, h1, h2⟩ := (key _ _ _).mp e
    exact (key _ _ _).mpr ⟨s, h.1 _ _ h1, (hk s).1 _ _ h2⟩
  · obtain ⟨s, h1, h2⟩ := (key _ _ _).mp e
    exact (key _ _ _).mpr ⟨s, h.2.1 _ _ h1, (hk s).2.1 _ _ h2⟩
  · obtain ⟨s, h1, h2⟩ := (key _ _ _).mp e
    obtain ⟨n, hn⟩ := h.2.2 _ h1
    obtain ⟨m, hm⟩ := (hk s).2.2 _ h2
    exact ⟨max n m, (key _ _ _).mpr ⟨s, ct_up h (Nat.le_max_left _ _) hn, ct_up (hk s) (Nat.le_max_right _ _) hm⟩⟩
theorem ct_bA {o : mO} {f : Nat → mO} {k : Nat → mSt → mO} {g : Nat → Nat → mSt → mO} (h : CT o f) (hk : ∀ v s, CT (k v s) (fun n => g n v s)) : CT (bA o k) (fun n => bA (f n) (g n)) := by
  have key : ∀ (o : mO) (k : Nat → mSt → mO) (r : mR), bA o k = some r ↔ ∃ v s, o = some (some (pA v), s) ∧ k v s = some r := by
    intro o k r
    constructor
    · intro e
      unfold bA at e
      split at e
      next v s => exact ⟨v, s, rfl, e⟩
      next => cases e
    · rintro ⟨v, s, rfl, e⟩
      exact e
  refine ⟨fun n r e => ?_, fun n r e => ?_, fun r e => ?_⟩
  · obtain ⟨v, s, h1, h2⟩ := (key _ _ _).mp e
    exact (key _ _ _).mpr ⟨v, s, h.1 _ _ h1, (hk v s).1 _ _ h2⟩
  · obtain ⟨v, s, h1, h2⟩ := (key _ _ _).mp e
    exact (key _ _ _).mpr ⟨v, s, h.2.1 _ _ h1, (hk v s).2.1 _ _ h2⟩
  · obtain ⟨v, s, h1, h2⟩ := (key _ _ _).mp e
    obtain ⟨n, hn⟩ := h.2.2 _ h1
    obtain ⟨m, hm⟩ := (hk v s).2.2 _ h2
    exact ⟨max n m, (key _ _ _).mpr ⟨v, s, ct_up h (Nat.le_max_left _ _) hn, ct_up (hk v s) (Nat.le_max_right _ _) hm⟩⟩
theorem ct_k1 {st : List mV} {k : Int32 → List mV → mO} {g : Nat → Int32 → List mV → mO} (h : ∀ x r, CT (k x r) (fun n => g n x r)) : CT (k1 st k) (fun n => k1 st (g n)) := by
  unfold k1
  split
  · exact h _ _
  · exact ct_c
theorem ct_k2 {st : List mV} {k : Int32 → Int32 → List mV → mO} {g : Nat → Int32 → Int32 → List mV → mO} (h : ∀ x y r, CT (k x y r) (fun n => g n x y r)) : CT (k2 st k) (fun n => k2 st (g n)) := by
  unfold k2
  split
  · exact h _ _ _
  · exact ct_c
theorem ct_j1 {st : List mV} {k : Int64 → List mV → mO} {g : Nat → Int64 → List mV → mO} (h : ∀ x r, CT (k x r) (fun n => g n x r)) : CT (j1 st k) (fun n => j1 st (g n)) := by
  unfold j1
  split
  · exact h _ _
  · exact ct_c
theorem ct_j2 {st : List mV} {k : Int64 → Int64 → List mV → mO} {g : Nat → Int64 → Int64 → List mV → mO} (h : ∀ x y r, CT (k x y r) (fun n => g n x y r)) : CT (j2 st k) (fun n => j2 st (g n)) := by
  unfold j2
  split
  · exact h _ _ _
  · exact ct_c
theorem ct_ji {st : List mV} {k : Int64 → Int32 → List mV → mO} {g : Nat → Int64 → Int32 → List mV → mO} (h : ∀ x y r, CT (k x y r) (fun n => g n x y r)) : CT (ji st k) (fun n => ji st (g n)) := by
  unfold ji
  split
  · exact h _ _ _
  · exact ct_c
theorem ct_ldI {L : mL} {i : Nat} {k : Int32 → mO} {g : Nat → Int32 → mO} (h : ∀ x, CT (k x) (fun n => g n x)) : CT (ldI L i k) (fun n => ldI L i (g n)) := by
  unfold ldI
  split
  · exact h _
  · exact ct_c
theorem ct_ldJ {L : mL} {i : Nat} {k : Int64 → mO} {g : Nat → Int64 → mO} (h : ∀ x, CT (k x) (fun n => g n x)) : CT (ldJ L i k) (fun n => ldJ L i (g n)) := by
  unfold ldJ
  split
  · exact h _
  · exact ct_c
theorem ct_ldA {L : mL} {i : Nat} {k : mV → mO} {g : Nat → mV → mO} (h : ∀ x, CT (k x) (fun n => g n x)) : CT (ldA L i k) (fun n => ldA L i (g n)) := by
  unfold ldA
  split
  · exact h _
  · exact h _
  · exact ct_c
theorem ct_popA {st : List mV} {k : mV → List mV → mO} {g : Nat → mV → List mV → mO} (h : ∀ x r, CT (k x r) (fun n => g n x r)) : CT (popA st k) (fun n => popA st (g n)) := by
  unfold popA
  split
  · exact h _ _
  · exact h _ _
  · exact ct_c
theorem ct_jtK {pc : Nat} {o : Int} {k : Nat → mO} {g : Nat → Nat → mO} (h : ∀ x, CT (k x) (fun n => g n x)) : CT (jtK pc o k) (fun n => jtK pc o (g n)) := by
  unfold jtK
  split
  · exact h _
  · exact ct_c
theorem ct_swK {x : Int32} {pc : Nat} {d : Int} {k : Nat → mO} {g : Nat → Nat → mO} (h : ∀ x, CT (k x) (fun n => g n x)) : ∀ (os : List Int) (v : Int), CT (swK x pc d v os k) (fun n => swK x pc d v os (g n)) := by
  intro os
  induction os with
  | nil => intro v; exact ct_jtK h
  | cons o os ih => intro v; exact ct_ite (ct_jtK h) (ih (v + 1))
theorem ct_arK {v : mV} {k : Nat → Nat → mO} {g : Nat → Nat → Nat → mO} (h : ∀ x y, CT (k x y) (fun n => g n x y)) : CT (arK v k) (fun n => arK v (g n)) := by
  unfold arK
  split
  · split
    · exact h _ _
    · exact ct_c
  · split
    · exact ct_gd (h _ _)
    · exact ct_c
  · exact ct_c
theorem ct_srK {v : mV} {s : mSt} {k : (Nat → Int32) → Nat → mO} {g : Nat → (Nat → Int32) → Nat → mO} (h : ∀ x y, CT (k x y) (fun n => g n x y)) : CT (srK v s k) (fun n => srK v s (g n)) := by
  unfold srK
  split
  · split
    · exact h _ _
    · split
      · exact h _ _
      · exact ct_gd (h _ _)
  · split
    · exact ct_gd (h _ _)
    · exact ct_c
  · exact ct_c
theorem ct_crK {v : mV} {s : mSt} {k : (Nat → Int32) → Nat → mO} {g : Nat → (Nat → Int32) → Nat → mO} (h : ∀ x y, CT (k x y) (fun n => g n x y)) : CT (crK v s k) (fun n => crK v s (g n)) := by
  unfold crK
  split
  · split
    · exact h _ _
    · split
      · exact h _ _
      · exact ct_c
  · split
    · exact ct_gd (h _ _)
    · exact ct_c
  · exact ct_c
theorem ct_lenK {v : mV} {s : mSt} {k : Int32 → mO} {g : Nat → Int32 → mO} (h : ∀ x, CT (k x) (fun n => g n x)) : CT (lenK v s k) (fun n => lenK v s (g n)) := by
  unfold lenK
  split
  · split
    · exact h _
    · split
      · exact h _
      · exact ct_gd (h _)
  · split
    · exact ct_gd (h _)
    · exact ct_c
  · exact ct_c
theorem ct_ppN : ∀ {m : Nat} {st : List mV} {k : List mV → List mV → mO} {g : Nat → List mV → List mV → mO}, (∀ x y, CT (k x y) (fun n => g n x y)) → CT (ppN m st k) (fun n => ppN m st (g n)) := by
  intro m
  induction m with
  | zero => intro st k g h; exact h _ _
  | succ m ih =>
    intro st k g h
    cases st with
    | nil => exact ct_c
    | cons v st => exact ih (fun x y => h _ _)
theorem ct_rtK {t : Option FieldType} {o : mO} {f : Nat → mO} {kV : mSt → mO} {kI : Int32 → mSt → mO} {kA : Nat → mSt → mO} {gV : Nat → mSt → mO} {gI : Nat → Int32 → mSt → mO} {gA : Nat → Nat → mSt → mO} (h : CT o f) (hV : ∀ s, CT (kV s) (fun n => gV n s)) (hI : ∀ v s, CT (kI v s) (fun n => gI n v s)) (hA : ∀ v s, CT (kA v s) (fun n => gA n v s)) : CT (rtK t o kV kI kA) (fun n => rtK t (f n) (gV n) (gI n) (gA n)) := by
  unfold rtK
  split
  · exact ct_bV h hV
  · exact ct_bI h hI
  · exact ct_bI h hI
  · exact ct_bI h hI
  · exact ct_bI h hI
  · exact ct_bA h hA
  · exact ct_c
section EXI
variable {nx : Nat → mL → List mV → mSt → mO} {cl : Nat → mL → mSt → mO} {nxn : Nat → Nat → mL → List mV → mSt → mO} {cln : Nat → Nat → mL → mSt → mO}
theorem ct_callK (hn : ∀ pc L st s, CT (nx pc L st s) (fun n => nxn n pc L st s)) (hc : ∀ ν L s, CT (cl ν L s) (fun n => cln n ν L s)) {μ ν pc : Nat} {L : mL} {s : mSt} {as r : List mV} : CT (callK nx cl μ ν pc L s as r) (fun n => callK (nxn n) (cln n) μ ν pc L s as r) :=
  ct_gd (ct_rtK (hc _ _ _) (fun _ => hn _ _ _ _) (fun _ _ => hn _ _ _ _) (fun _ _ => hn _ _ _ _))
set_option maxHeartbeats 8000000 in
theorem exI_CT (hn : ∀ pc L st s, CT (nx pc L st s) (fun n => nxn n pc L st s)) (hc : ∀ ν L s, CT (cl ν L s) (fun n => cln n ν L s)) {μ pc n : Nat} {L : mL} {st : List mV} {s : mSt} {i : Instr} : CT (exI nx cl μ pc n L st s i) (fun k => exI (nxn k) (cln k) μ pc n L st s i) := by
  unfold exI
  split
  all_goals first
    | exact ct_c
    | exact hn _ _ _ _
    | exact ct_k2 fun _ _ _ => hn _ _ _ _
    | exact ct_k2 fun _ _ _ => ct_gd (hn _ _ _ _)
    | exact ct_k1 fun _ _ => hn _ _ _ _
    | exact ct_k1 fun _ _ => ct_gd (hn _ _ _ _)
    | exact ct_ldI fun _ => hn _ _ _ _
    | exact ct_ldI fun _ => ct_gd (hn _ _ _ _)
    | exact ct_ldJ fun _ => hn _ _ _ _
    | exact ct_ldA fun _ => hn _ _ _ _
    | exact ct_popA fun _ _ => ct_gd (hn _ _ _ _)
    | exact ct_j1 fun _ _ => ct_gd (hn _ _ _ _)
    | exact ct_j1 fun _ _ => hn _ _ _ _
    | exact ct_j2 fun _ _ _ => hn _ _ _ _
    | exact ct_ji fun _ _ _ => hn _ _ _ _
    | exact ct_jtK fun _ => hn _ _ _ _
    | exact ct_k2 fun _ _ _ => ct_jtK fun _ => ct_ite (hn _ _ _ _) (hn _ _ _ _)
    | exact ct_k1 fun _ _ => ct_jtK fun _ => ct_ite (hn _ _ _ _) (hn _ _ _ _)
    | exact ct_k1 fun _ _ => ct_gd (ct_swK (fun _ => hn _ _ _ _) _ _)
    | (repeat' (first
        | exact ct_c
        | exact hn _ _ _ _
        | exact ct_gd (hn _ _ _ _)
        | exact ct_srK fun _ _ => ct_gd (hn _ _ _ _)
        | exact ct_arK fun _ _ => ct_gd (hn _ _ _ _)
        | exact ct_arK fun _ _ => ct_crK fun _ _ => ct_gd (hn _ _ _ _)
        | exact ct_lenK fun _ => hn _ _ _ _
        | exact ct_k1 fun _ _ => ct_gd (hn _ _ _ _)
        | exact ct_k2 fun _ _ _ => ct_gd (hn _ _ _ _)
        | exact ct_gd (ct_ppN fun _ _ => ct_callK hn hc)
        | (refine ct_gd (ct_ppN fun as _ => ?_); cases as)
        | exact ct_gd (ct_callK hn hc)
        | refine ct_gd ?_
        | split))
theorem stK_CT (hn : ∀ pc L st s, CT (nx pc L st s) (fun n => nxn n pc L st s)) (hc : ∀ ν L s, CT (cl ν L s) (fun n => cln n ν L s)) {μ pc : Nat} {L : mL} {st : List mV} {s : mSt} : CT (stK nx cl μ pc L st s) (fun k => stK (nxn k) (cln k) μ pc L st s) := by
  unfold stK
  split
  · exact ct_gd (exI_CT hn hc)
  · exact ct_c
end EXI
theorem Phi1_CT {re : Nat → Nat → mL → List mV → mSt → mO} {ren : Nat → Nat → Nat → mL → List mV → mSt → mO} (h : ∀ μ pc L st s, CT (re μ pc L st s) (fun n => ren n μ pc L st s)) (μ pc : Nat) (L : mL) (st : List mV) (s : mSt) : CT (Phi re 1 μ pc L st s) (fun n => Phi (ren n) 1 μ pc L st s) := by
  refine stK_CT (nxn := fun n pc' L' st' s' => match lk (cutC μ) pc' with
    | some m => ren n μ pc' (maskL m L') st' s'
    | none => Phi (ren n) 0 μ pc' L' st' s') (cln := fun n ν L' s' => ren n ν 0 L' [] s') (fun pc' L' st' s' => ?_) (fun ν L' s' => h _ _ _ _ _)
  cases lk (cutC μ) pc' with
  | some m => exact h _ _ _ _ _
  | none => exact h _ _ _ _ _
theorem Phi1_up {re re' : Nat → Nat → mL → List mV → mSt → mO} (h : ∀ μ pc L st s r, re μ pc L st s = some r → re' μ pc L st s = some r) (μ pc : Nat) (L : mL) (st : List mV) (s : mSt) (r : mR) (hr : Phi re 1 μ pc L st s = some r) : Phi re' 1 μ pc L st s = some r :=
  (Phi1_CT (re := re') (ren := fun n => match n with | 0 => re | _ + 1 => re') (fun μ pc L st s => ⟨fun n r e => by cases n with | zero => exact h _ _ _ _ _ _ e | succ n => exact e, fun n r e => by cases n with | zero => exact h _ _ _ _ _ _ e | succ n => exact e, fun r e => ⟨1, e⟩⟩) μ pc L st s).1 0 r hr
theorem run_up : ∀ (n : Nat) (μ pc : Nat) (L : mL) (st : List mV) (s : mSt) (r : mR), run n μ pc L st s = some r → run (n + 1) μ pc L st s = some r := by
  intro n
  induction n with
  | zero => intro μ pc L st s r h; cases h
  | succ n ih => exact fun μ pc L st s r h => Phi1_up ih μ pc L st s r h
theorem run_le {n m : Nat} (h : n ≤ m) {μ pc : Nat} {L : mL} {st : List mV} {s : mSt} {r : mR} (hr : run n μ pc L st s = some r) : run m μ pc L st s = some r := by
  obtain ⟨k, rfl⟩ := Nat.le.dest h
  induction k with
  | zero => exact hr
  | succ k ih => exact run_up _ _ _ _ _ _ _ (ih (Nat.le_add_right _ _))
/-- what a run comes to, if it comes to an end -/
noncomputable def EV (μ pc : Nat) (L : mL) (st : List mV) (s : mSt) : mO := Classical.choose (show ∃ o : mO, ∀ r, o = some r ↔ ∃ n, run n μ pc L st s = some r by
  by_cases h : ∃ r n, run n μ pc L st s = some r
  · obtain ⟨r, n, h⟩ := h
    refine ⟨some r, fun r' => ⟨fun e => ⟨n, by rw [h, e]⟩, fun ⟨m, e⟩ => ?_⟩⟩
    have h1 := run_le (Nat.le_max_left n m) h
    have h2 := run_le (Nat.le_max_right n m) e
    rw [← h1, h2]
  · exact ⟨none, fun r' => ⟨fun e => (by cases e), fun ⟨m, e⟩ => absurd ⟨r', m, e⟩ h⟩⟩)
theorem EV_iff {μ pc : Nat} {L : mL} {st : List mV} {s : mSt} {r : mR} : EV μ pc L st s = some r ↔ ∃ n, run n μ pc L st s = some r := Classical.choose_spec (show ∃ o : mO, ∀ r, o = some r ↔ ∃ n, run n μ pc L st s = some r by
  by_cases h : ∃ r n, run n μ pc L st s = some r
  · obtain ⟨r, n, h⟩ := h
    refine ⟨some r, fun r' => ⟨fun e => ⟨n, by rw [h, e]⟩, fun ⟨m, e⟩ => ?_⟩⟩
    have h1 := run_le (Nat.le_max_left n m) h
    have h2 := run_le (Nat.le_max_right n m) e
    rw [← h1, h2]
  · exact ⟨none, fun r' => ⟨fun e => (by cases e), fun ⟨m, e⟩ => absurd ⟨r', m, e⟩ h⟩⟩) r
theorem EV_CT (μ pc : Nat) (L : mL) (st : List mV) (s : mSt) : CT (EV μ pc L st s) (fun n => run n μ pc L st s) := ⟨fun n r h => run_up n μ pc L st s r h, fun n r h => EV_iff.mpr ⟨n, h⟩, fun r h => EV_iff.mp h⟩
theorem EV_one (μ pc : Nat) (L : mL) (st : List mV) (s : mSt) : EV μ pc L st s = Phi EV 1 μ pc L st s := by
  have h := Phi1_CT EV_CT μ pc L st s
  cases h1 : Phi EV 1 μ pc L st s with
  | some r =>
    obtain ⟨n, hn⟩ := h.2.2 r h1
    exact EV_iff.mpr ⟨n + 1, hn⟩
  | none =>
    cases h2 : EV μ pc L st s with
    | none => rfl
    | some r =>
      obtain ⟨n, hn⟩ := EV_iff.mp h2
      cases n with
      | zero => cases hn
      | succ n =>
        have := h.2.1 n r hn
        rw [h1] at this
        cases this
/-- THE UNFOLDING: any number of steps -/
theorem EV_un : ∀ (k μ pc : Nat) (L : mL) (st : List mV) (s : mSt), EV μ pc L st s = Phi EV k μ pc L st s := by
  intro k
  induction k with
  | zero => intro μ pc L st s; rfl
  | succ k ih =>
    intro μ pc L st s
    rw [EV_one]
    unfold Phi
    congr 1
    funext pc' L' st' s'
    cases lk (cutC μ) pc' with
    | some m => rfl
    | none => exact ih μ pc' L' st' s'
