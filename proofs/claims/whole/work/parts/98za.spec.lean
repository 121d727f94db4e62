/-! RULES: the words exclude each other; what a line says (gen98za.py) -/
theorem mt_un (T : Nat → Int32) : ∀ (l l' : List Int32) (q : Nat), l.length = l'.length → mtT T q l = true → mtT T q l' = true → l = l' := by
  intro l
  induction l with
  | nil =>
    intro l' q h _ _
    cases l' with
    | nil => rfl
    | cons c l' => cases h
  | cons c l ih =>
    intro l' q h h1 h2
    cases l' with
    | nil => cases h
    | cons c' l' =>
      have h1 : (decide (T q = c) && mtT T (q + 1) l) = true := h1
      have h2 : (decide (T q = c') && mtT T (q + 1) l') = true := h2
      rw [Bool.and_eq_true_iff] at h1 h2
      have e1 := of_decide_eq_true h1.1
      have e2 := of_decide_eq_true h2.1
      rw [ih l' (q + 1) (Nat.succ.inj h) h1.2 h2.2, ← e1, ← e2]
theorem wq_un {T : Nat → Int32} {q e : Nat} {l l' : List Int32} (h : wqT T q e l = true) (hn : l' ≠ l) : ¬ wqT T q e l' = true := fun h' => by
  unfold wqT at h h'
  rw [Bool.and_eq_true_iff] at h h'
  have e1 := of_decide_eq_true h.1
  have e2 := of_decide_eq_true h'.1
  exact hn (mt_un T l' l q (by rw [← e1, ← e2]) h'.2 h.2)
theorem nm_rent {T : Nat → Int32} {q e : Nat} (h : wqT T q e [114, 101, 110, 116] = true) : nmV T q e = 8 := by
  unfold nmV
  rw [if_neg (wq_un h (by decide)), if_neg (wq_un h (by decide)), if_neg (wq_un h (by decide)), if_neg (wq_un h (by decide)), if_neg (wq_un h (by decide)), if_neg (wq_un h (by decide)), if_neg (wq_un h (by decide)), if_neg (wq_un h (by decide)), if_pos h]
theorem nm_from {T : Nat → Int32} {q e : Nat} (h : wqT T q e [102, 114, 111, 109] = true) : nmV T q e = 9 := by
  unfold nmV
  rw [if_neg (wq_un h (by decide)), if_neg (wq_un h (by decide)), if_neg (wq_un h (by decide)), if_neg (wq_un h (by decide)), if_neg (wq_un h (by decide)), if_neg (wq_un h (by decide)), if_neg (wq_un h (by decide)), if_neg (wq_un h (by decide)), if_neg (wq_un h (by decide)), if_pos h]
theorem nn_from {T : Nat → Int32} {q e : Nat} (h : ¬ wqT T q e [102, 114, 111, 109] = true) : ¬ nmV T q e = 9 := by
  unfold nmV
  by_cases h0 : wqT T q e [115, 101, 110, 100] = true
  · rw [if_pos h0]; decide
  rw [if_neg h0]
  by_cases h1 : wqT T q e [110, 101, 101, 100] = true
  · rw [if_pos h1]; decide
  rw [if_neg h1]
  by_cases h2 : wqT T q e [108, 111, 115, 115] = true
  · rw [if_pos h2]; decide
  rw [if_neg h2]
  by_cases h3 : wqT T q e [115, 112, 108, 105, 99, 101] = true
  · rw [if_pos h3]; decide
  rw [if_neg h3]
  by_cases h4 : wqT T q e [97, 103, 101] = true
  · rw [if_pos h4]; decide
  rw [if_neg h4]
  by_cases h5 : wqT T q e [114, 111, 111, 109] = true
  · rw [if_pos h5]; decide
  rw [if_neg h5]
  by_cases h6 : wqT T q e [109, 101, 110, 100] = true
  · rw [if_pos h6]; decide
  rw [if_neg h6]
  by_cases h7 : wqT T q e [115, 97, 105, 108] = true
  · rw [if_pos h7]; decide
  rw [if_neg h7]
  by_cases h8 : wqT T q e [114, 101, 110, 116] = true
  · rw [if_pos h8]; decide
  rw [if_neg h8]
  rw [if_neg h]
  by_cases h10 : wqT T q e [116, 111] = true
  · rw [if_pos h10]; decide
  rw [if_neg h10]
  by_cases h11 : wqT T q e [102, 111, 114] = true
  · rw [if_pos h11]; decide
  rw [if_neg h11]
  decide
theorem nm_to {T : Nat → Int32} {q e : Nat} (h : wqT T q e [116, 111] = true) : nmV T q e = 10 := by
  unfold nmV
  rw [if_neg (wq_un h (by decide)), if_neg (wq_un h (by decide)), if_neg (wq_un h (by decide)), if_neg (wq_un h (by decide)), if_neg (wq_un h (by decide)), if_neg (wq_un h (by decide)), if_neg (wq_un h (by decide)), if_neg (wq_un h (by decide)), if_neg (wq_un h (by decide)), if_neg (wq_un h (by decide)), if_pos h]
theorem nn_to {T : Nat → Int32} {q e : Nat} (h : ¬ wqT T q e [116, 111] = true) : ¬ nmV T q e = 10 := by
  unfold nmV
  by_cases h0 : wqT T q e [115, 101, 110, 100] = true
  · rw [if_pos h0]; decide
  rw [if_neg h0]
  by_cases h1 : wqT T q e [110, 101, 101, 100] = true
  · rw [if_pos h1]; decide
  rw [if_neg h1]
  by_cases h2 : wqT T q e [108, 111, 115, 115] = true
  · rw [if_pos h2]; decide
  rw [if_neg h2]
  by_cases h3 : wqT T q e [115, 112, 108, 105, 99, 101] = true
  · rw [if_pos h3]; decide
  rw [if_neg h3]
  by_cases h4 : wqT T q e [97, 103, 101] = true
  · rw [if_pos h4]; decide
  rw [if_neg h4]
  by_cases h5 : wqT T q e [114, 111, 111, 109] = true
  · rw [if_pos h5]; decide
  rw [if_neg h5]
  by_cases h6 : wqT T q e [109, 101, 110, 100] = true
  · rw [if_pos h6]; decide
  rw [if_neg h6]
  by_cases h7 : wqT T q e [115, 97, 105, 108] = true
  · rw [if_pos h7]; decide
  rw [if_neg h7]
  by_cases h8 : wqT T q e [114, 101, 110, 116] = true
  · rw [if_pos h8]; decide
  rw [if_neg h8]
  by_cases h9 : wqT T q e [102, 114, 111, 109] = true
  · rw [if_pos h9]; decide
  rw [if_neg h9]
  rw [if_neg h]
  by_cases h11 : wqT T q e [102, 111, 114] = true
  · rw [if_pos h11]; decide
  rw [if_neg h11]
  decide
theorem nm_for {T : Nat → Int32} {q e : Nat} (h : wqT T q e [102, 111, 114] = true) : nmV T q e = 11 := by
  unfold nmV
  rw [if_neg (wq_un h (by decide)), if_neg (wq_un h (by decide)), if_neg (wq_un h (by decide)), if_neg (wq_un h (by decide)), if_neg (wq_un h (by decide)), if_neg (wq_un h (by decide)), if_neg (wq_un h (by decide)), if_neg (wq_un h (by decide)), if_neg (wq_un h (by decide)), if_neg (wq_un h (by decide)), if_neg (wq_un h (by decide)), if_pos h]
theorem nn_for {T : Nat → Int32} {q e : Nat} (h : ¬ wqT T q e [102, 111, 114] = true) : ¬ nmV T q e = 11 := by
  unfold nmV
  by_cases h0 : wqT T q e [115, 101, 110, 100] = true
  · rw [if_pos h0]; decide
  rw [if_neg h0]
  by_cases h1 : wqT T q e [110, 101, 101, 100] = true
  · rw [if_pos h1]; decide
  rw [if_neg h1]
  by_cases h2 : wqT T q e [108, 111, 115, 115] = true
  · rw [if_pos h2]; decide
  rw [if_neg h2]
  by_cases h3 : wqT T q e [115, 112, 108, 105, 99, 101] = true
  · rw [if_pos h3]; decide
  rw [if_neg h3]
  by_cases h4 : wqT T q e [97, 103, 101] = true
  · rw [if_pos h4]; decide
  rw [if_neg h4]
  by_cases h5 : wqT T q e [114, 111, 111, 109] = true
  · rw [if_pos h5]; decide
  rw [if_neg h5]
  by_cases h6 : wqT T q e [109, 101, 110, 100] = true
  · rw [if_pos h6]; decide
  rw [if_neg h6]
  by_cases h7 : wqT T q e [115, 97, 105, 108] = true
  · rw [if_pos h7]; decide
  rw [if_neg h7]
  by_cases h8 : wqT T q e [114, 101, 110, 116] = true
  · rw [if_pos h8]; decide
  rw [if_neg h8]
  by_cases h9 : wqT T q e [102, 114, 111, 109] = true
  · rw [if_pos h9]; decide
  rw [if_neg h9]
  by_cases h10 : wqT T q e [116, 111] = true
  · rw [if_pos h10]; decide
  rw [if_neg h10]
  rw [if_neg h]
  decide
theorem nm_else {T : Nat → Int32} {q e : Nat} (h : ¬ wqT T q e [114, 101, 110, 116] = true) : ¬ nmV T q e = 8 ∧ (if wb (nmV T q e) 0 7 = 0 then 8 else nmV T q e) = rnV T q e := by
  unfold nmV rnV
  by_cases h0 : wqT T q e [115, 101, 110, 100] = true
  · rw [if_pos h0, if_pos h0]; exact ⟨by decide, by decide⟩
  rw [if_neg h0, if_neg h0]
  by_cases h1 : wqT T q e [110, 101, 101, 100] = true
  · rw [if_pos h1, if_pos h1]; exact ⟨by decide, by decide⟩
  rw [if_neg h1, if_neg h1]
  by_cases h2 : wqT T q e [108, 111, 115, 115] = true
  · rw [if_pos h2, if_pos h2]; exact ⟨by decide, by decide⟩
  rw [if_neg h2, if_neg h2]
  by_cases h3 : wqT T q e [115, 112, 108, 105, 99, 101] = true
  · rw [if_pos h3, if_pos h3]; exact ⟨by decide, by decide⟩
  rw [if_neg h3, if_neg h3]
  by_cases h4 : wqT T q e [97, 103, 101] = true
  · rw [if_pos h4, if_pos h4]; exact ⟨by decide, by decide⟩
  rw [if_neg h4, if_neg h4]
  by_cases h5 : wqT T q e [114, 111, 111, 109] = true
  · rw [if_pos h5, if_pos h5]; exact ⟨by decide, by decide⟩
  rw [if_neg h5, if_neg h5]
  by_cases h6 : wqT T q e [109, 101, 110, 100] = true
  · rw [if_pos h6, if_pos h6]; exact ⟨by decide, by decide⟩
  rw [if_neg h6, if_neg h6]
  by_cases h7 : wqT T q e [115, 97, 105, 108] = true
  · rw [if_pos h7, if_pos h7]; exact ⟨by decide, by decide⟩
  rw [if_neg h7, if_neg h7]
  rw [if_neg h]
  by_cases h9 : wqT T q e [102, 114, 111, 109] = true
  · rw [if_pos h9]; exact ⟨by decide, by decide⟩
  rw [if_neg h9]
  by_cases h10 : wqT T q e [116, 111] = true
  · rw [if_pos h10]; exact ⟨by decide, by decide⟩
  rw [if_neg h10]
  by_cases h11 : wqT T q e [102, 111, 114] = true
  · rw [if_pos h11]; exact ⟨by decide, by decide⟩
  rw [if_neg h11]
  exact ⟨by decide, by decide⟩
def bS {α β : Type} (x : Sum (Nat × Nat) α) (f : α → Sum (Nat × Nat) β) : Sum (Nat × Nat) β := match x with
  | Sum.inl e => Sum.inl e
  | Sum.inr a => f a
theorem bS_l {α β : Type} {x : Sum (Nat × Nat) α} {f : α → Sum (Nat × Nat) β} {e : Nat × Nat} (h : x = Sum.inl e) : bS x f = Sum.inl e := by rw [h]; rfl
theorem bS_r {α β : Type} {x : Sum (Nat × Nat) α} {f : α → Sum (Nat × Nat) β} {a : α} (h : x = Sum.inr a) : bS x f = f a := by rw [h]; rfl
/-- a number from a to b at place p: its value and the place behind it -/
def numS (T : Nat → Int32) (n p : Nat) (a b : Int32) : Sum (Nat × Nat) (Int32 × Nat) := if tkOK T n (tkB T n p) = false then Sum.inl (1, tkB T n p) else if tkS T n (tkB T n p) = 2 then (if wb (tkV T n (tkB T n p)) a b = 0 then Sum.inl (3, tkB T n p) else Sum.inr (tkV T n (tkB T n p), tkE T n (tkB T n p))) else Sum.inl (2, tkB T n p)
def wordS (T : Nat → Int32) (n p : Nat) (x : Int32) : Sum (Nat × Nat) Nat := if tkOK T n (tkB T n p) = false then Sum.inl (1, tkB T n p) else if tkN T n p = x then Sum.inr (tkE T n (tkB T n p)) else Sum.inl (2, tkB T n p)
def stopS (T : Nat → Int32) (n p : Nat) : Sum (Nat × Nat) Nat := if tkOK T n (tkB T n p) = false then Sum.inl (1, tkB T n p) else if tkS T n (tkB T n p) = 3 then Sum.inr (tkE T n (tkB T n p)) else Sum.inl (2, tkB T n p)
def houseS (T : Nat → Int32) (n p : Nat) : Sum (Nat × Nat) (Int32 × Nat) := if tkOK T n (tkB T n p) = false then Sum.inl (1, tkB T n p) else if tkS T n (tkB T n p) = 1 ∧ tkE T n (tkB T n p) - tkB T n p = 1 ∧ ¬ wb (T (tkB T n p)) 97 102 = 0 then Sum.inr (T (tkB T n p) - 97, tkE T n (tkB T n p)) else Sum.inl (2, tkB T n p)
def w6 (a b c d e f : Int32) (j : Nat) : Int32 := if j = 0 then a else if j = 1 then b else if j = 2 then c else if j = 3 then d else if j = 4 then e else f
def rentS (T : Nat → Int32) (n p : Nat) : Sum (Nat × Nat) ((Nat → Int32) × Nat) :=
  bS (houseS T n p) fun x1 => bS (numS T n x1.2 0 11) fun x2 => bS (numS T n x2.2 1 8) fun x3 => bS (wordS T n x3.2 9) fun p4 => bS (numS T n p4 0 998) fun x5 => bS (wordS T n x5.2 10) fun p6 => bS (numS T n p6 (x5.1 + 1) 999) fun x7 => bS (wordS T n x7.2 11) fun p8 => bS (numS T n p8 0 99) fun x9 => bS (stopS T n x9.2) fun p10 => Sum.inr (w6 x1.1 x2.1 x3.1 x5.1 x7.1 x9.1, p10)
def lstV (x : Int32) : Int32 := if (5 : Int32) ≤ x then 1 else 0
def mstV (x : Int32) : Int32 := if (2 : Int32) ≤ x then (if x = 5 then 50 else 20) else 999
def lineS (T : Nat → Int32) (n p B r : Nat) : Sum (Nat × Nat) (Sum (Nat × Int32) (Nat → Int32) × Nat) :=
  if tkN T n p = 8 then (if r < 8 then bS (rentS T n (tkE T n (tkB T n p))) fun x => Sum.inr (Sum.inr x.1, x.2) else Sum.inl (5, tkB T n p))
  else if wb (tkN T n p) 0 7 = 0 then Sum.inl (2, tkB T n p)
  else if B.testBit (tkN T n p).toNatClampNeg = true then Sum.inl (4, tkB T n p)
  else bS (numS T n (tkE T n (tkB T n p)) (lstV (tkN T n p)) (mstV (tkN T n p))) fun x => bS (stopS T n x.2) fun p' => Sum.inr (Sum.inl ((tkN T n p).toNatClampNeg, x.1), p')
section SPC
variable {T : Nat → Int32} {n p : Nat}
theorem numS_f (h : tkOK T n (tkB T n p) = false) (a b : Int32) : numS T n p a b = Sum.inl (1, tkB T n p) := by unfold numS; rw [if_pos h]
theorem numS_t (h : tkOK T n (tkB T n p) = true) (a b : Int32) : numS T n p a b = if tkS T n (tkB T n p) = 2 then (if wb (tkV T n (tkB T n p)) a b = 0 then Sum.inl (3, tkB T n p) else Sum.inr (tkV T n (tkB T n p), tkE T n (tkB T n p))) else Sum.inl (2, tkB T n p) := by unfold numS; rw [if_neg (by rw [h]; decide)]
theorem wordS_f (h : tkOK T n (tkB T n p) = false) (x : Int32) : wordS T n p x = Sum.inl (1, tkB T n p) := by unfold wordS; rw [if_pos h]
theorem wordS_t (h : tkOK T n (tkB T n p) = true) (x : Int32) : wordS T n p x = if tkN T n p = x then Sum.inr (tkE T n (tkB T n p)) else Sum.inl (2, tkB T n p) := by unfold wordS; rw [if_neg (by rw [h]; decide)]
theorem stopS_f (h : tkOK T n (tkB T n p) = false) : stopS T n p = Sum.inl (1, tkB T n p) := by unfold stopS; rw [if_pos h]
theorem stopS_t (h : tkOK T n (tkB T n p) = true) : stopS T n p = if tkS T n (tkB T n p) = 3 then Sum.inr (tkE T n (tkB T n p)) else Sum.inl (2, tkB T n p) := by unfold stopS; rw [if_neg (by rw [h]; decide)]
theorem houseS_f (h : tkOK T n (tkB T n p) = false) : houseS T n p = Sum.inl (1, tkB T n p) := by unfold houseS; rw [if_pos h]
theorem houseS_t (h : tkOK T n (tkB T n p) = true) : houseS T n p = if tkS T n (tkB T n p) = 1 ∧ tkE T n (tkB T n p) - tkB T n p = 1 ∧ ¬ wb (T (tkB T n p)) 97 102 = 0 then Sum.inr (T (tkB T n p) - 97, tkE T n (tkB T n p)) else Sum.inl (2, tkB T n p) := by unfold houseS; rw [if_neg (by rw [h]; decide)]
theorem numS_r (hp : p ≤ n) {a b v : Int32} {p' : Nat} (h : numS T n p a b = Sum.inr (v, p')) : p ≤ p' ∧ p' ≤ n ∧ bd v a.toInt b.toInt := by
  have b1 := tkB_le (T := T) hp
  have b2 := tkE_le (T := T) b1.2
  cases hok : tkOK T n (tkB T n p) with
  | false => rw [numS_f hok] at h; cases h
  | true =>
    rw [numS_t hok] at h
    by_cases c : tkS T n (tkB T n p) = 2
    · rw [if_pos c] at h
      by_cases w : wb (tkV T n (tkB T n p)) a b = 0
      · rw [if_pos w] at h; cases h
      · rw [if_neg w] at h
        cases h
        exact ⟨by omega, b2.2, wb_n w⟩
    · rw [if_neg c] at h; cases h
theorem wordS_r (hp : p ≤ n) {x : Int32} {p' : Nat} (h : wordS T n p x = Sum.inr p') : p ≤ p' ∧ p' ≤ n := by
  have b1 := tkB_le (T := T) hp
  have b2 := tkE_le (T := T) b1.2
  cases hok : tkOK T n (tkB T n p) with
  | false => rw [wordS_f hok] at h; cases h
  | true =>
    rw [wordS_t hok] at h
    by_cases c : tkN T n p = x
    · rw [if_pos c] at h; cases h; exact ⟨by omega, b2.2⟩
    · rw [if_neg c] at h; cases h
theorem stopS_r (hp : p ≤ n) {p' : Nat} (h : stopS T n p = Sum.inr p') : p < p' ∧ p' ≤ n := by
  have b1 := tkB_le (T := T) hp
  have b2 := tkE_le (T := T) b1.2
  cases hok : tkOK T n (tkB T n p) with
  | false => rw [stopS_f hok] at h; cases h
  | true =>
    rw [stopS_t hok] at h
    by_cases c : tkS T n (tkB T n p) = 3
    · rw [if_pos c] at h; cases h
      have e3 : tkE T n (tkB T n p) = tkB T n p + 1 := by
        unfold tkS at c
        unfold tkE
        by_cases c0 : tkB T n p < n
        · rw [if_pos c0] at c ⊢
          by_cases c1 : T (tkB T n p) = 59
          · rw [if_pos c1]
          · rw [if_neg c1] at c
            by_cases c2 : ltT T (tkB T n p) = true
            · rw [if_pos c2] at c; exact absurd c (by decide)
            · rw [if_neg c2] at c; exact absurd c (by decide)
        · rw [if_neg c0] at c; exact absurd c (by decide)
      exact ⟨by omega, b2.2⟩
    · rw [if_neg c] at h; cases h
theorem houseS_r (hp : p ≤ n) {v : Int32} {p' : Nat} (h : houseS T n p = Sum.inr (v, p')) : p ≤ p' ∧ p' ≤ n ∧ bd v 0 5 := by
  have b1 := tkB_le (T := T) hp
  have b2 := tkE_le (T := T) b1.2
  cases hok : tkOK T n (tkB T n p) with
  | false => rw [houseS_f hok] at h; cases h
  | true =>
    rw [houseS_t hok] at h
    by_cases c : tkS T n (tkB T n p) = 1 ∧ tkE T n (tkB T n p) - tkB T n p = 1 ∧ ¬ wb (T (tkB T n p)) 97 102 = 0
    · rw [if_pos c] at h
      obtain ⟨-, -, w⟩ := c
      have w := wb_n w
      cases h
      have e1 : (97 : Int32).toInt = 97 := rfl
      have e2 : (102 : Int32).toInt = 102 := rfl
      have e3 := i32_sub (a := T (tkB T n p)) (b := 97) (by omega) (by omega)
      exact ⟨by omega, b2.2, by omega, by omega⟩
    · rw [if_neg c] at h; cases h
end SPC
