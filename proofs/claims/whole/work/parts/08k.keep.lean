/-! WHAT NO RUN WRITES: the script and its length -/
def KP (xs ys : Nat → Int32) (s : mSt) : Prop := s idScr = xs ∧ s idLen = ys
def PK (xs ys : Nat → Int32) (o : mO) : Prop := ∀ q, o = some q → KP xs ys q.2
section PKS
variable {xs ys : Nat → Int32}
theorem pk_n : PK xs ys none := fun _ h => by cases h
theorem pk_gd {b : Bool} {a : mO} (h : PK xs ys a) : PK xs ys (gd b a) := by
  cases b
  · exact pk_n
  · exact h
theorem pk_ite {c : Prop} [Decidable c] {a b : mO} (h : PK xs ys a) (k : PK xs ys b) : PK xs ys (if c then a else b) := by
  by_cases hc : c
  · rw [if_pos hc]; exact h
  · rw [if_neg hc]; exact k
theorem pk_bI {o : mO} {k : Int32 → mSt → mO} (h : PK xs ys o) (hk : ∀ v s, KP xs ys s → PK xs ys (k v s)) : PK xs ys (bI o k) := by
  unfold bI
  split
  next v s => exact hk v s (h _ rfl)
  next => exact pk_n
theorem pk_bV {o : mO} {k : mSt → mO} (h : PK xs ys o) (hk : ∀ s, KP xs ys s → PK xs ys (k s)) : PK xs ys (bV o k) := by
  unfold bV
  split
  next s => exact hk s (h _ rfl)
  next => exact pk_n
theorem pk_bA {o : mO} {k : Nat → mSt → mO} (h : PK xs ys o) (hk : ∀ v s, KP xs ys s → PK xs ys (k v s)) : PK xs ys (bA o k) := by
  unfold bA
  split
  next v s => exact hk v s (h _ rfl)
  next => exact pk_n
theorem pk_k1 {st : List mV} {k : Int32 → List mV → mO} (h : ∀ x r, PK xs ys (k x r)) : PK xs ys (k1 st k) := by
  unfold k1
  split
  · exact h _ _
  · exact pk_n
theorem pk_k2 {st : List mV} {k : Int32 → Int32 → List mV → mO} (h : ∀ x y r, PK xs ys (k x y r)) : PK xs ys (k2 st k) := by
  unfold k2
  split
  · exact h _ _ _
  · exact pk_n
theorem pk_j1 {st : List mV} {k : Int64 → List mV → mO} (h : ∀ x r, PK xs ys (k x r)) : PK xs ys (j1 st k) := by
  unfold j1
  split
  · exact h _ _
  · exact pk_n
theorem pk_j2 {st : List mV} {k : Int64 → Int64 → List mV → mO} (h : ∀ x y r, PK xs ys (k x y r)) : PK xs ys (j2 st k) := by
  unfold j2
  split
  · exact h _ _ _
  · exact pk_n
theorem pk_ji {st : List mV} {k : Int64 → Int32 → List mV → mO} (h : ∀ x y r, PK xs ys (k x y r)) : PK xs ys (ji st k) := by
  unfold ji
  split
  · exact h _ _ _
  · exact pk_n
theorem pk_ldI {L : mL} {i : Nat} {k : Int32 → mO} (h : ∀ x, PK xs ys (k x)) : PK xs ys (ldI L i k) := by
  unfold ldI
  split
  · exact h _
  · exact pk_n
theorem pk_ldJ {L : mL} {i : Nat} {k : Int64 → mO} (h : ∀ x, PK xs ys (k x)) : PK xs ys (ldJ L i k) := by
  unfold ldJ
  split
  · exact h _
  · exact pk_n
theorem pk_ldA {L : mL} {i : Nat} {k : mV → mO} (h : ∀ x, PK xs ys (k x)) : PK xs ys (ldA L i k) := by
  unfold ldA
  split
  · exact h _
  · exact h _
  · exact pk_n
theorem pk_popA {st : List mV} {k : mV → List mV → mO} (h : ∀ x r, PK xs ys (k x r)) : PK xs ys (popA st k) := by
  unfold popA
  split
  · exact h _ _
  · exact h _ _
  · exact pk_n
theorem pk_jtK {pc : Nat} {o : Int} {k : Nat → mO} (h : ∀ x, PK xs ys (k x)) : PK xs ys (jtK pc o k) := by
  unfold jtK
  split
  · exact h _
  · exact pk_n
theorem pk_swK {x : Int32} {pc : Nat} {d : Int} {k : Nat → mO} (h : ∀ x, PK xs ys (k x)) : ∀ (os : List Int) (v : Int), PK xs ys (swK x pc d v os k) := by
  intro os
  induction os with
  | nil => intro v; exact pk_jtK h
  | cons o os ih => intro v; exact pk_ite (pk_jtK h) (ih (v + 1))
theorem iK_no {a n : Nat} (h : iK a = some n) : a ≠ idScr ∧ a ≠ idLen := by
  have hlt : a < 237 := by
    unfold iK at h
    cases hb : Nat.blt a 237 with
    | true => exact Nat.le_of_ble_eq_true hb
    | false => rw [hb] at h; cases h
  unfold idScr idLen
  omega
theorem gT_no : (gT.all fun q => (List.range q.2.1).all fun r => Nat.blt (q.2.2.2 + r) 237) = true := by decide +kernel
theorem gK_no {g r : Nat} {q : Nat × Nat × Nat} (h : gK g = some q) (hr : r < q.1) : q.2.2 + r ≠ idScr ∧ q.2.2 + r ≠ idLen := by
  have := List.all_eq_true.mp (List.all_eq_true.mp gT_no _ (lk_mem h)) r (List.mem_range.mpr hr)
  have hlt : q.2.2 + r < 237 := Nat.le_of_ble_eq_true this
  unfold idScr idLen
  omega
theorem pk_arK {v : mV} {k : Nat → Nat → mO} (h : ∀ a n, a ≠ idScr ∧ a ≠ idLen → PK xs ys (k a n)) : PK xs ys (arK v k) := by
  unfold arK
  split
  · split
    next n e => exact h _ _ (iK_no e)
    next => exact pk_n
  · split
    next q e =>
      intro z hz
      unfold gd at hz
      revert hz
      cases hb : Nat.blt _ q.1 with
      | true => exact fun hz => h _ _ (gK_no e (Nat.le_of_ble_eq_true hb)) z hz
      | false => intro hz; cases hz
    next => exact pk_n
  · exact pk_n
theorem pk_srK {v : mV} {s : mSt} {k : (Nat → Int32) → Nat → mO} (h : ∀ x y, PK xs ys (k x y)) : PK xs ys (srK v s k) := by
  unfold srK
  split
  · split
    · exact h _ _
    · split
      · exact h _ _
      · exact pk_gd (h _ _)
  · split
    · exact pk_gd (h _ _)
    · exact pk_n
  · exact pk_n
theorem pk_crK {v : mV} {s : mSt} {k : (Nat → Int32) → Nat → mO} (h : ∀ x y, PK xs ys (k x y)) : PK xs ys (crK v s k) := by
  unfold crK
  split
  · split
    · exact h _ _
    · split
      · exact h _ _
      · exact pk_n
  · split
    · exact pk_gd (h _ _)
    · exact pk_n
  · exact pk_n
theorem pk_lenK {v : mV} {s : mSt} {k : Int32 → mO} (h : ∀ x, PK xs ys (k x)) : PK xs ys (lenK v s k) := by
  unfold lenK
  split
  · split
    · exact h _
    · split
      · exact h _
      · exact pk_gd (h _)
  · split
    · exact pk_gd (h _)
    · exact pk_n
  · exact pk_n
theorem pk_ppN : ∀ {m : Nat} {st : List mV} {k : List mV → List mV → mO}, (∀ x y, PK xs ys (k x y)) → PK xs ys (ppN m st k) := by
  intro m
  induction m with
  | zero => intro st k h; exact h _ _
  | succ m ih =>
    intro st k h
    cases st with
    | nil => exact pk_n
    | cons v st => exact ih (fun x y => h _ _)
theorem kp_wr {s : mSt} (h : KP xs ys s) {a j : Nat} {v : Int32} (ha : a ≠ idScr ∧ a ≠ idLen) : KP xs ys (wr s a j v) := ⟨by rw [← h.1]; exact if_neg (fun e => ha.1 e.symm), by rw [← h.2]; exact if_neg (fun e => ha.2 e.symm)⟩
theorem kp_cpw {s : mSt} (h : KP xs ys s) {a sp dp n : Nat} {f : Nat → Int32} (ha : a ≠ idScr ∧ a ≠ idLen) : KP xs ys (cpw s a f sp dp n) := ⟨by rw [← h.1]; exact if_neg (fun e => ha.1 e.symm), by rw [← h.2]; exact if_neg (fun e => ha.2 e.symm)⟩
theorem oT_no : (oT.all fun q => Nat.blt q.1 237) = true := by decide +kernel
theorem oK_no {a : Nat} {q : Nat × List (Option Nat)} (h : oK a = some q) : a ≠ idScr ∧ a ≠ idLen := by
  have hlt : a < 237 := Nat.le_of_ble_eq_true (List.all_eq_true.mp oT_no _ (lk_mem h))
  unfold idScr idLen
  omega
theorem zT_no : (zT.all fun q => Nat.blt q.1 237) = true := by decide +kernel
theorem zK_no {a n : Nat} (h : zK a = some n) : a ≠ idScr ∧ a ≠ idLen := by
  have hlt : a < 237 := Nat.le_of_ble_eq_true (List.all_eq_true.mp zT_no _ (lk_mem h))
  unfold idScr idLen
  omega
variable {nx : Nat → mL → List mV → mSt → mO} {cl : Nat → mL → mSt → mO}
theorem pk_callK (hn : ∀ pc L st s, KP xs ys s → PK xs ys (nx pc L st s)) (hc : ∀ ν L s, KP xs ys s → PK xs ys (cl ν L s)) {μ ν pc : Nat} {L : mL} {s : mSt} {as r : List mV} (hs : KP xs ys s) : PK xs ys (callK nx cl μ ν pc L s as r) := by
  refine pk_gd ?_
  unfold rtK
  split
  · exact pk_bV (hc _ _ _ hs) (fun s h => hn _ _ _ _ h)
  · exact pk_bI (hc _ _ _ hs) (fun v s h => hn _ _ _ _ h)
  · exact pk_bI (hc _ _ _ hs) (fun v s h => hn _ _ _ _ h)
  · exact pk_bI (hc _ _ _ hs) (fun v s h => hn _ _ _ _ h)
  · exact pk_bI (hc _ _ _ hs) (fun v s h => hn _ _ _ _ h)
  · exact pk_bA (hc _ _ _ hs) (fun v s h => hn _ _ _ _ h)
  · exact pk_n
set_option maxHeartbeats 8000000 in
theorem exI_PK (hn : ∀ pc L st s, KP xs ys s → PK xs ys (nx pc L st s)) (hc : ∀ ν L s, KP xs ys s → PK xs ys (cl ν L s)) {μ pc n : Nat} {L : mL} {st : List mV} {s : mSt} {i : Instr} (hs : KP xs ys s) : PK xs ys (exI nx cl μ pc n L st s i) := by
  unfold exI
  split
  all_goals first
    | exact pk_n
    | exact hn _ _ _ _ hs
    | exact pk_k2 fun _ _ _ => hn _ _ _ _ hs
    | exact pk_k2 fun _ _ _ => pk_gd (hn _ _ _ _ hs)
    | exact pk_k1 fun _ _ => hn _ _ _ _ hs
    | exact pk_k1 fun _ _ => pk_gd (hn _ _ _ _ hs)
    | exact pk_ldI fun _ => hn _ _ _ _ hs
    | exact pk_ldI fun _ => pk_gd (hn _ _ _ _ hs)
    | exact pk_ldJ fun _ => hn _ _ _ _ hs
    | exact pk_ldA fun _ => hn _ _ _ _ hs
    | exact pk_popA fun _ _ => pk_gd (hn _ _ _ _ hs)
    | exact pk_j1 fun _ _ => pk_gd (hn _ _ _ _ hs)
    | exact pk_j1 fun _ _ => hn _ _ _ _ hs
    | exact pk_j2 fun _ _ _ => hn _ _ _ _ hs
    | exact pk_ji fun _ _ _ => hn _ _ _ _ hs
    | exact pk_jtK fun _ => hn _ _ _ _ hs
    | exact pk_k2 fun _ _ _ => pk_jtK fun _ => pk_ite (hn _ _ _ _ hs) (hn _ _ _ _ hs)
    | exact pk_k1 fun _ _ => pk_jtK fun _ => pk_ite (hn _ _ _ _ hs) (hn _ _ _ _ hs)
    | exact pk_k1 fun _ _ => pk_gd (pk_swK (fun _ => hn _ _ _ _ hs) _ _)
    | (repeat' (first
        | exact pk_n
        | exact hn _ _ _ _ hs
        | exact hn _ _ _ _ (kp_wr hs (oK_no (by assumption)))
        | exact pk_gd (hn _ _ _ _ hs)
        | exact pk_gd (hn _ _ _ _ (kp_wr hs (zK_no (by assumption))))
        | exact pk_srK fun _ _ => pk_gd (hn _ _ _ _ hs)
        | exact pk_arK fun _ _ ha => pk_gd (hn _ _ _ _ (kp_wr hs ha))
        | exact pk_arK fun _ _ ha => pk_crK fun _ _ => pk_gd (hn _ _ _ _ (kp_cpw hs ha))
        | exact pk_lenK fun _ => hn _ _ _ _ hs
        | exact pk_k1 fun _ _ => pk_gd (hn _ _ _ _ hs)
        | exact pk_k2 fun _ _ _ => pk_gd (hn _ _ _ _ hs)
        | exact pk_gd (pk_ppN fun _ _ => pk_callK hn hc hs)
        | (refine pk_gd (pk_ppN fun as _ => ?_); cases as)
        | exact pk_gd (pk_callK hn hc hs)
        | (intro q hq; (try unfold gd at hq); simp only [cond_eq_ite, ite_eq_left_iff, Option.ite_none_right_eq_some, Option.some.injEq] at hq; obtain ⟨-, rfl⟩ := hq; exact hs)
        | (intro q hq; cases hq; exact hs)
        | refine pk_gd ?_
        | split))
end PKS
theorem run_PK {xs ys : Nat → Int32} : ∀ (n μ pc : Nat) (L : mL) (st : List mV) (s : mSt), KP xs ys s → PK xs ys (run n μ pc L st s) := by
  intro n
  induction n with
  | zero => intro μ pc L st s h; exact pk_n
  | succ n ih =>
    intro μ pc L st s h
    show PK xs ys (stK _ _ μ pc L st s)
    unfold stK
    split
    · refine pk_gd (exI_PK (fun pc' L' st' s' h' => ?_) (fun ν L' s' h' => ih _ _ _ _ _ h') h)
      show PK xs ys (match lk (cutC μ) pc' with
        | some m => run n μ pc' (maskL m L') st' s'
        | none => run n μ pc' L' st' s')
      cases lk (cutC μ) pc' with
      | some m => exact ih _ _ _ _ _ h'
      | none => exact ih _ _ _ _ _ h'
    · exact pk_n
