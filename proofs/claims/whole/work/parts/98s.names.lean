/-! RULES: the names, the reference -/
def mtT (T : Nat → Int32) : Nat → List Int32 → Bool
  | _, [] => true
  | q, c :: l => decide (T q = c) && mtT T (q + 1) l
theorem mt_T (s : mSt) : ∀ l q, mtB s q l = mtT (s 13) q l := by
  intro l
  induction l with
  | nil => intro q; rfl
  | cons c l ih =>
    intro q
    show (decide (s 13 q = c) && mtB s (q + 1) l) = (decide (s 13 q = c) && mtT (s 13) (q + 1) l)
    rw [ih]
def wqT (T : Nat → Int32) (q e : Nat) (l : List Int32) : Bool := decide (e - q = l.length) && mtT T q l
section NMS
variable {T : Nat → Int32} {n q e : Nat} {s : mSt}
theorem isM (hn : n ≤ 240) (hT : s 197 = T) (h20 : s 183 20 = nn n) (h21 : s 183 21 = nn e) (h22 : s 183 22 = nn q) (hqe : q ≤ e) (he : e ≤ n) (h23 : s 183 23 = 1) {L : Nat} (h2 : 2 ≤ L) (h6 : L ≤ 6) (a b c d : Int32) : mo_is s (nn L) a b c d = rI (bi (decide (e - q = L) && (decide (T q = a) && (decide (T (q + 1) = b) && ((decide (L < 3) || decide (T (q + 2) = c)) && (decide (L < 4) || decide (T (q + 3) = d))))))) s := by
  have ed : nn e - nn q = nn (e - q) := nn_d hqe
  have lk : ∀ x, x < n → lkT T n x = T x := fun x hx => by unfold lkT; rw [if_pos hx]
  have b0 : bi false = 0 := rfl
  rw [mo_is_eq, if_pos h23, h21, h22, ed]
  by_cases hl : e - q = L
  · rw [if_pos (by rw [hl]), decide_eq_true hl, lookM hn hT h20 (by omega), bI_rI, lk q (by omega), Bool.true_and]
    by_cases ca : T q = a
    · rw [if_pos ca, decide_eq_true ca, h22, nn_s, lookM hn hT h20 (by omega), bI_rI, lk (q + 1) (by omega), Bool.true_and]
      by_cases cb : T (q + 1) = b
      · rw [if_pos cb, decide_eq_true cb, Bool.true_and]
        have h67 : mo_is_67 s (nn L) d = rI (bi (decide (L < 4) || decide (T (q + 3) = d))) s := by
          rw [mo_is_67_eq]
          by_cases l4 : L < 4
          · rw [if_pos (show nn L < 4 from ylt (j := 4) l4 (by decide)), decide_eq_true l4]; rfl
          · rw [if_neg (show ¬ nn L < 4 from nlt (j := 4) (by omega) (by omega)), decide_eq_false l4, h22, show nn q + 3 = nn (q + 3) from nn_a q 3, lookM hn hT h20 (by omega), bI_rI, lk (q + 3) (by omega), Bool.false_or]
            by_cases cd : T (q + 3) = d
            · rw [if_pos cd, decide_eq_true cd]; rfl
            · rw [if_neg cd, decide_eq_false cd]; rfl
        by_cases l3 : L < 3
        · rw [if_pos (show nn L < 3 from ylt (j := 3) l3 (by decide)), decide_eq_true l3, h67, Bool.true_or, Bool.true_and]
        · rw [if_neg (show ¬ nn L < 3 from nlt (j := 3) (by omega) (by omega)), decide_eq_false l3, h22, show nn q + 2 = nn (q + 2) from nn_a q 2, lookM hn hT h20 (by omega), bI_rI, lk (q + 2) (by omega), Bool.false_or]
          by_cases cc : T (q + 2) = c
          · rw [if_pos cc, decide_eq_true cc, h67, Bool.true_and]
          · rw [if_neg cc, decide_eq_false cc]; rfl
      · rw [if_neg cb, decide_eq_false cb]; rfl
    · rw [if_neg ca, decide_eq_false ca]; rfl
  · rw [if_neg (fun z => hl ((nn_eq (by omega) (by omega)).mp z)), decide_eq_false hl]; rfl
theorem is0 (h23 : s 183 23 ≠ 1) (x a b c d : Int32) : mo_is s x a b c d = rI 0 s := by rw [mo_is_eq, if_neg h23]
end NMS
