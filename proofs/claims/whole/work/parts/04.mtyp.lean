/-! THE ABSTRACT MACHINE, its types. Memory: cell number and place to an int; cells are numbered in the order in which the two constructors make them (address: base + number). A value: a machine's value whose reference is a cell's number, or (g, r): row r of the two-dimensional array g. -/
abbrev mSt : Type := Nat → Nat → Int32
abbrev mV : Type := Value ⊕ (Nat × Nat)
abbrev mL : Type := List (Option mV)
abbrev mR : Type := Option mV × mSt
abbrev mO : Type := Option mR
abbrev pI (v : Int32) : mV := .inl (.int v)
abbrev pJ (v : Int64) : mV := .inl (.long v)
abbrev pA (a : Nat) : mV := .inl (.ref a)
/-- a method's row: its code, its bytes, its name, locals, answer, the number of its kind, arguments (with this), static, frames, words -/
abbrev mRec : Type := List (Nat × Instr × Nat) × ByteArray × MethodName × Nat × Option FieldType × Nat × Nat × Bool × Nat × Nat
/-- look a number up in a table -/
def lk {α : Type} : List (Nat × α) → Nat → Option α
  | [], _ => none
  | (k, v) :: t, x => cond (Nat.beq k x) (some v) (lk t x)
theorem lk_mem {α : Type} {v : α} {x : Nat} : ∀ {t : List (Nat × α)}, lk t x = some v → (x, v) ∈ t := by
  intro t
  induction t with
  | nil => intro h; cases h
  | cons q t ih =>
    obtain ⟨k, w⟩ := q
    intro h
    unfold lk at h
    cases hb : Nat.beq k x with
    | true =>
      rw [hb] at h
      have e : k = x := Nat.eq_of_beq_eq_true hb
      subst e
      cases h
      exact List.mem_cons_self
    | false =>
      rw [hb] at h
      exact List.mem_cons_of_mem _ (ih h)
theorem cP {α : Sort _} {P : α → Prop} {a b : α} (ha : P a) (hb : P b) (c : Bool) : P (cond c a b) := by
  cases c
  · exact hb
  · exact ha
