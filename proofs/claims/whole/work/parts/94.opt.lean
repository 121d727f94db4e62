/-! ORDER: the least by suffixes is the least by prefixes -/
def wS (w : Nat → Int) (D : Nat) : Nat → Int
  | 0 => 0
  | k + 1 => wS w D k + (if D.testBit k = true then w k else 0)
theorem wS_add {w : Nat → Int} {X A B n : Nat} (h1 : ∀ i, i < n → X.testBit i = (A.testBit i || B.testBit i)) (h2 : ∀ i, i < n → ¬ (A.testBit i = true ∧ B.testBit i = true)) : wS w X n = wS w A n + wS w B n := by
  induction n with
  | zero => rfl
  | succ n ih =>
    show wS w X n + (if X.testBit n = true then w n else 0) = (wS w A n + (if A.testBit n = true then w n else 0)) + (wS w B n + (if B.testBit n = true then w n else 0))
    rw [ih (fun i hi => h1 i (by omega)) (fun i hi => h2 i (by omega)), h1 n (by omega)]
    have := h2 n (by omega)
    cases ha : A.testBit n <;> cases hb : B.testBit n
    · rw [if_neg (by decide), if_neg (by decide)]; omega
    · rw [if_pos (by decide), if_neg (by decide), if_pos rfl]; omega
    · rw [if_pos (by decide), if_pos rfl, if_neg (by decide)]; omega
    · exact absurd ⟨ha, hb⟩ this
def sbS (D S : Nat) : Prop := ∀ i, D.testBit i = true → S.testBit i = true
def pcN (D n : Nat) : Nat := ctN (fun i => D.testBit i) n
theorem pc_del {D k n : Nat} (hk : k < n) (h : D.testBit k = true) : pcN D n = pcN (D ^^^ 2 ^ k) n + 1 := ctN_del hk h (by rw [tb_xor, h, decide_eq_true rfl]; rfl) (fun i hi => by rw [tb_xor, decide_eq_false (fun e => hi e.symm), Bool.xor_false])
theorem xx_cancel (a b : Nat) : a ^^^ b ^^^ b = a := by rw [Nat.xor_assoc, Nat.xor_self, Nat.xor_zero]
theorem bits0 {D n : Nat} (hD : D < 2 ^ n) (h : ∀ i, i < n → D.testBit i = false) : D = 0 := by
  apply Nat.eq_of_testBit_eq
  intro i
  rw [Nat.zero_testBit]
  by_cases c : i < n
  · exact h i c
  · exact Nat.testBit_lt_two_pow (Nat.lt_of_lt_of_le hD (Nat.pow_le_pow_right (by omega) (by omega)))
theorem has_bit {D n : Nat} (hD : D < 2 ^ n) (h : D ≠ 0) : ∃ i, i < n ∧ D.testBit i = true := by
  rcases first_bad (P := fun i => D.testBit i = false) n with q | ⟨i, i1, i2, -⟩
  · exact absurd (bits0 hD q) h
  · refine ⟨i, i1, ?_⟩
    cases e : D.testBit i with
    | true => rfl
    | false => exact absurd e i2
section OPT
variable {n S : Nat} {w : Nat → Int} {leg : Nat → Nat → Int} {st : Nat → Int} {B C : Nat → Nat → Int} {V best : Int}
theorem opt_eq (hS : S < 2 ^ n)
    (hB0 : ∀ k, k < n → B k 0 = 0)
    (hB : ∀ k R, k < n → R < 2 ^ n → R ≠ 0 → (∀ l, l < n → R.testBit l = true → B k R ≤ wS w R n * leg k l + B l (R ^^^ 2 ^ l)) ∧ ∃ l, l < n ∧ R.testBit l = true ∧ B k R = wS w R n * leg k l + B l (R ^^^ 2 ^ l))
    (hC1 : ∀ k, k < n → S.testBit k = true → C (2 ^ k) k = st k * wS w S n)
    (hC : ∀ D k, sbS D S → k < n → D.testBit k = true → D ^^^ 2 ^ k ≠ 0 → (∀ p, p < n → (D ^^^ 2 ^ k).testBit p = true → C D k ≤ C (D ^^^ 2 ^ k) p + leg p k * (wS w S n - wS w (D ^^^ 2 ^ k) n)) ∧ ∃ p, p < n ∧ (D ^^^ 2 ^ k).testBit p = true ∧ C D k = C (D ^^^ 2 ^ k) p + leg p k * (wS w S n - wS w (D ^^^ 2 ^ k) n))
    (hV : (∀ k, k < n → S.testBit k = true → V ≤ wS w S n * st k + B k (S ^^^ 2 ^ k)) ∧ ∃ k, k < n ∧ S.testBit k = true ∧ V = wS w S n * st k + B k (S ^^^ 2 ^ k))
    (hb : (∀ k, k < n → S.testBit k = true → best ≤ C S k) ∧ ∃ k, k < n ∧ S.testBit k = true ∧ best = C S k) : V = best := by
  have sub_lt : ∀ D, sbS D S → D < 2 ^ n := fun D h => by
    apply Nat.lt_pow_two_of_testBit
    intro i hi
    cases e : D.testBit i with
    | false => rfl
    | true =>
      have := h i e
      rw [Nat.testBit_lt_two_pow (Nat.lt_of_lt_of_le hS (Nat.pow_le_pow_right (by omega) hi))] at this
      cases this
  have dif : ∀ D, sbS D S → ∀ i, (S ^^^ D).testBit i = (S.testBit i && !D.testBit i) := fun D h i => by
    rw [Nat.testBit_xor]
    cases e : D.testBit i with
    | false => rw [Bool.xor_false, Bool.not_false, Bool.and_true]
    | true => rw [h i e]; rfl
  have wdif : ∀ D, sbS D S → wS w (S ^^^ D) n = wS w S n - wS w D n := fun D h => by
    have := wS_add (w := w) (X := S) (A := D) (B := S ^^^ D) (n := n) (fun i _ => by
      rw [dif D h]
      cases e : D.testBit i with
      | false => rw [Bool.not_false, Bool.and_true, Bool.false_or]
      | true => rw [h i e]; rfl) (fun i _ q => by
      rw [dif D h, q.1] at q
      have := q.2
      rw [Bool.not_true, Bool.and_false] at this
      cases this)
    omega
  have sub_del : ∀ D k, sbS D S → sbS (D ^^^ 2 ^ k) S ∨ True := fun _ _ _ => Or.inr trivial
  have sub_rm : ∀ D k, sbS D S → D.testBit k = true → sbS (D ^^^ 2 ^ k) S := fun D k h hk i hi => by
    rw [tb_xor] at hi
    by_cases e : k = i
    · rw [← e]; exact h k hk
    · rw [decide_eq_false e, Bool.xor_false] at hi; exact h i hi
  have dl_lt : ∀ D, sbS D S → S ^^^ D < 2 ^ n := fun D h => Nat.xor_lt_two_pow hS (sub_lt D h)
  -- prefixes are no better
  have U : ∀ m D k, pcN D n = m → sbS D S → k < n → D.testBit k = true → V ≤ C D k + B k (S ^^^ D) := by
    intro m
    induction m with
    | zero =>
      intro D k hm hs hk hb'
      have := pc_del hk hb'
      omega
    | succ m ih =>
      intro D k hm hs hk hb'
      have hpc := pc_del hk hb'
      by_cases c : D ^^^ 2 ^ k = 0
      · have eD : D = 2 ^ k := by
          have := xx_cancel D (2 ^ k)
          rw [c, Nat.zero_xor] at this
          exact this.symm
        have h1 := hV.1 k hk (hs k hb')
        have h2 := hC1 k hk (hs k hb')
        rw [eD, h2]
        rw [Int.mul_comm] at h1
        exact h1
      · obtain ⟨p, p1, p2, p3⟩ := (hC D k hs hk hb' c).2
        have hs' := sub_rm D k hs hb'
        have h1 := ih (D ^^^ 2 ^ k) p (by omega) hs' p1 p2
        have hR : (S ^^^ (D ^^^ 2 ^ k)).testBit k = true := by
          rw [dif _ hs', tb_xor, hb', decide_eq_true rfl, hs k hb']; rfl
        have hR0 : S ^^^ (D ^^^ 2 ^ k) ≠ 0 := fun e => by rw [e, Nat.zero_testBit] at hR; cases hR
        have h2 := (hB p (S ^^^ (D ^^^ 2 ^ k)) p1 (dl_lt _ hs') hR0).1 k hk hR
        have e2 : S ^^^ (D ^^^ 2 ^ k) ^^^ 2 ^ k = S ^^^ D := by rw [Nat.xor_assoc, xx_cancel]
        rw [e2, wdif _ hs', Int.mul_comm] at h2
        omega
  -- and suffixes are no better
  have L : ∀ m D k, pcN (S ^^^ D) n = m → sbS D S → k < n → D.testBit k = true → best ≤ C D k + B k (S ^^^ D) := by
    intro m
    induction m with
    | zero =>
      intro D k hm hs hk hb'
      have e0 : S ^^^ D = 0 := by
        by_cases c : S ^^^ D = 0
        · exact c
        · obtain ⟨i, i1, i2⟩ := has_bit (dl_lt D hs) c
          have := pc_del i1 i2
          omega
      have eD : D = S := by
        have := xx_cancel S D
        rw [e0, Nat.zero_xor] at this
        exact this
      have := hb.1 k hk (by rw [← eD]; exact hb')
      rw [e0, hB0 k hk, eD]
      omega
    | succ m ih =>
      intro D k hm hs hk hb'
      have h0 : S ^^^ D ≠ 0 := fun e => by
        rw [e] at hm
        have : pcN 0 n = 0 := by
          have := ctN_no (p := fun i => (0 : Nat).testBit i) (a := 0) (z := n) (by omega) (fun i _ _ => Nat.zero_testBit i)
          exact this
        omega
      obtain ⟨l, l1, l2, l3⟩ := (hB k (S ^^^ D) hk (dl_lt D hs) h0).2
      have hl : S.testBit l = true ∧ D.testBit l = false := by
        rw [dif D hs, Bool.and_eq_true, Bool.not_eq_true'] at l2
        exact l2
      have hne : l ≠ k := fun e => by rw [e, hb'] at hl; cases hl.2
      have hs' : sbS (D ^^^ 2 ^ l) S := fun i hi => by
        rw [tb_xor] at hi
        by_cases e : l = i
        · rw [← e]; exact hl.1
        · rw [decide_eq_false e, Bool.xor_false] at hi; exact hs i hi
      have hbl : (D ^^^ 2 ^ l).testBit l = true := by rw [tb_xor, hl.2, decide_eq_true rfl]; rfl
      have e1 : D ^^^ 2 ^ l ^^^ 2 ^ l = D := xx_cancel _ _
      have hD0 : D ≠ 0 := fun e => by rw [e, Nat.zero_testBit] at hb'; cases hb'
      have h1 := (hC (D ^^^ 2 ^ l) l hs' l1 hbl (by rw [e1]; exact hD0)).1 k hk (by rw [e1]; exact hb')
      rw [e1] at h1
      have hpc := pc_del l1 l2
      have e2 : S ^^^ (D ^^^ 2 ^ l) = S ^^^ D ^^^ 2 ^ l := (Nat.xor_assoc _ _ _).symm
      have h2 := ih (D ^^^ 2 ^ l) l (by rw [e2]; omega) hs' l1 hbl
      rw [e2] at h2
      rw [l3, wdif D hs, Int.mul_comm]
      omega
  obtain ⟨kv, v1, v2, v3⟩ := hV.2
  obtain ⟨kb, b1, b2, b3⟩ := hb.2
  have q1 := U _ S kb rfl (fun _ h => h) b1 b2
  rw [Nat.xor_self, hB0 kb b1] at q1
  have hs2 : sbS (2 ^ kv) S := fun i hi => by
    rw [Nat.testBit_two_pow, decide_eq_true_iff] at hi
    rw [← hi]; exact v2
  have q2 := L _ (2 ^ kv) kv rfl hs2 v1 (by rw [Nat.testBit_two_pow, decide_eq_true rfl])
  rw [hC1 kv v1 v2, Int.mul_comm] at q2
  omega
end OPT
