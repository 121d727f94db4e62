/-! the least of some, on machine numbers -/
def mnV (M0 : Int32) (cd : Nat → Bool) (vl : Nat → Int32) : Nat → Int32
  | 0 => M0
  | k + 1 => if cd k = true then jMin (mnV M0 cd vl k) (vl k) else mnV M0 cd vl k
theorem mn_ok {M0 : Int32} {cd : Nat → Bool} {vl : Nat → Int32} : ∀ n, (∀ k, k < n → cd k = true → (vl k).toInt < M0.toInt) → (mnV M0 cd vl n).toInt ≤ M0.toInt ∧ (∀ k, k < n → cd k = true → (mnV M0 cd vl n).toInt ≤ (vl k).toInt) ∧ ((∃ k, k < n ∧ cd k = true) → ∃ k, k < n ∧ cd k = true ∧ mnV M0 cd vl n = vl k) := by
  intro n
  induction n with
  | zero => intro _; exact ⟨Int.le_refl _, fun k hk => by omega, fun ⟨k, hk, _⟩ => by omega⟩
  | succ n ih =>
    intro h
    obtain ⟨i1, i2, i3⟩ := ih (fun k hk => h k (by omega))
    have e : mnV M0 cd vl (n + 1) = if cd n = true then jMin (mnV M0 cd vl n) (vl n) else mnV M0 cd vl n := rfl
    rw [e]
    by_cases c : cd n = true
    · rw [if_pos c]
      have m := jMin_i (x := mnV M0 cd vl n) (y := vl n)
      have hv := h n (by omega) c
      refine ⟨by omega, fun k hk hc => ?_, fun _ => ?_⟩
      · by_cases w : k = n
        · rw [w]; omega
        · have := i2 k (by omega) hc; omega
      · by_cases w : vl n < mnV M0 cd vl n
        · exact ⟨n, by omega, c, by unfold jMin; rw [if_pos w]⟩
        · by_cases q : ∃ k, k < n ∧ cd k = true
          · obtain ⟨k, k1, k2, k3⟩ := i3 q
            exact ⟨k, by omega, k2, by unfold jMin; rw [if_neg w]; exact k3⟩
          · exfalso
            have : mnV M0 cd vl n = M0 := by
              clear e m w i1 i2 i3
              have : ∀ j, j ≤ n → mnV M0 cd vl j = M0 := by
                intro j
                induction j with
                | zero => intro _; rfl
                | succ j ihj =>
                  intro hj
                  show (if cd j = true then _ else mnV M0 cd vl j) = M0
                  rw [if_neg (fun z => q ⟨j, by omega, z⟩)]
                  exact ihj (by omega)
              exact this n (Nat.le_refl _)
            rw [this, Int32.lt_iff_toInt_lt] at w
            omega
    · rw [if_neg c]
      refine ⟨i1, fun k hk hc => ?_, fun ⟨k, k1, k2⟩ => ?_⟩
      · have : k ≠ n := fun w => c (by rw [← w]; exact hc)
        exact i2 k (by omega) hc
      · have : k ≠ n := fun w => c (by rw [← w]; exact k2)
        obtain ⟨l, l1, l2, l3⟩ := i3 ⟨k, by omega, k2⟩
        exact ⟨l, by omega, l2, l3⟩
theorem mul_bd {a b A M : Int} (h1 : -A ≤ a) (h2 : a ≤ A) (h3 : 0 ≤ b) (h4 : b ≤ M) (hA : 0 ≤ A) : -(A * M) ≤ a * b ∧ a * b ≤ A * M := by
  have e1 : a * b ≤ A * b := Int.mul_le_mul_of_nonneg_right h2 h3
  have e2 : A * b ≤ A * M := Int.mul_le_mul_of_nonneg_left h4 hA
  have e3 : -A * b ≤ a * b := Int.mul_le_mul_of_nonneg_right h1 h3
  rw [Int.neg_mul] at e3
  omega
theorem i32_mul {a b : Int32} (h1 : -2147483648 ≤ a.toInt * b.toInt) (h2 : a.toInt * b.toInt < 2147483648) : (a * b).toInt = a.toInt * b.toInt := by
  rw [Int32.toInt_mul, Int.bmod_def]
  split <;> omega
/-! weights, legs -/
def swV (t : mSt) (w : Nat → Int32) (D : Nat) : Nat → Int32
  | 0 => 0
  | k + 1 => swV t w D k + (if D.testBit k = true then w k else 0)
def lgV (t : mSt) (j k : Nat) : Int32 := hrV t (jI t k) (bxV t (jI t j)) (byV t (jI t j))
section WGT
variable {t s : mSt}
theorem ls_bd (hJ : J t) (rl : Nat → Int32) : ∀ q, q ≤ ndm t → 0 ≤ (lsV t rl q).toInt ∧ (lsV t rl q).toInt ≤ 99 * q := by
  obtain ⟨-, h12, -⟩ := ndm_ok hJ
  intro q
  induction q with
  | zero =>
    intro _
    show 0 ≤ (0 : Int32).toInt ∧ (0 : Int32).toInt ≤ 99 * ((0 : Nat) : Int)
    decide
  | succ q ih =>
    intro hq
    obtain ⟨i1, i2⟩ := ih (by omega)
    obtain ⟨-, -, -, -, -, -, d1, d2⟩ := dm_ok hJ (show q < ndm t by omega)
    have e : lsV t rl (q + 1) = if t 46 q = 0 then lsV t rl q else if (ldW t rl q).length = 0 then lsV t rl q + t 46 q else lsV t rl q := rfl
    rw [e]
    have := i32_add (a := lsV t rl q) (b := t 46 q) (by omega) (by omega)
    by_cases c1 : t 46 q = 0
    · rw [if_pos c1]; omega
    · rw [if_neg c1]
      by_cases c2 : (ldW t rl q).length = 0
      · rw [if_pos c2]; omega
      · rw [if_neg c2]; omega
theorem wg_bd (hJ : J t) (i : Nat) : -1188 ≤ (wgV t i).toInt ∧ (wgV t i).toInt ≤ 1188 := by
  obtain ⟨-, h12, -⟩ := ndm_ok hJ
  have a := ls_bd hJ (rlT t (nn (lnB t (jI t i)))) (ndm t) (Nat.le_refl _)
  have b := ls_bd hJ (rlT t (-1)) (ndm t) (Nat.le_refl _)
  unfold wgV
  rw [i32_sub (by omega) (by omega)]
  omega
theorem sw_i (hJ : J t) (D : Nat) : ∀ n, n ≤ 7 → (swV t (wgV t) D n).toInt = wS (fun k => (wgV t k).toInt) D n ∧ -(1188 * (n : Int)) ≤ (swV t (wgV t) D n).toInt ∧ (swV t (wgV t) D n).toInt ≤ 1188 * n := by
  intro n
  induction n with
  | zero =>
    intro _
    refine ⟨rfl, ?_⟩
    show -(1188 * ((0 : Nat) : Int)) ≤ (0 : Int32).toInt ∧ (0 : Int32).toInt ≤ 1188 * ((0 : Nat) : Int)
    decide
  | succ n ih =>
    intro hn
    obtain ⟨i1, i2, i3⟩ := ih (by omega)
    have hb := wg_bd hJ n
    have e : swV t (wgV t) D (n + 1) = swV t (wgV t) D n + (if D.testBit n = true then wgV t n else 0) := rfl
    have f : wS (fun k => (wgV t k).toInt) D (n + 1) = wS (fun k => (wgV t k).toInt) D n + (if D.testBit n = true then (wgV t n).toInt else 0) := rfl
    rw [e, f]
    have u0 : (0 : Int32).toInt = 0 := rfl
    by_cases c : D.testBit n = true
    · rw [if_pos c, if_pos c]
      have := i32_add (a := swV t (wgV t) D n) (b := wgV t n) (by omega) (by omega)
      omega
    · rw [if_neg c, if_neg c]
      have := i32_add (a := swV t (wgV t) D n) (b := 0) (by omega) (by omega)
      omega
theorem lg_bd (hJ : J t) {j k : Nat} (hj : j < jnN t) (hk : k < jnN t) : bd (lgV t j k) 1 237 := by
  have h := bxy_bd (HB_of hJ (jI_lt hj))
  exact hr_bd (HB_of hJ (jI_lt hk)) h.1 h.2
theorem weightOfC (h7 : jnN t ≤ 7) (w1 : s 135 3 = nn (jnN t)) (w3 : ∀ i, i < jnN t → s 137 i = wgV t i) {D : Nat} (hD : D < 256) : me_weightOf s (nn D) = rI (swV t (wgV t) D (jnN t)) s := by
  rw [me_weightOf_eq]
  obtain ⟨c, e1, e2⟩ := loopS (σ := Int32) (fun c k => me_weightOf_4 s (nn D) c (nn k)) (jnN t) (fun k c => c = swV t (wgV t) D k) (i0 := 0) (s0 := 0) (fun k c hk hI => by
    show ∃ c', me_weightOf_4 s (nn D) c (nn k) = me_weightOf_4 s (nn D) c' (nn (k + 1)) ∧ _
    refine ⟨c + (if D.testBit k = true then wgV t k else 0), ?_, by rw [hI]; rfl⟩
    rw [me_weightOf_4_eq s (nn D) c (nn k), w1, if_neg (nle hk (by omega)), nn_b (i := k) (n := 7) (by omega) (by decide), gd_t, nn_n (by omega), w3 k hk, bget hD (by omega), nn_s]
    by_cases b : D.testBit k = true
    · rw [if_pos b, if_pos b, Int32.one_mul]
    · rw [if_neg b, if_neg b, Int32.zero_mul]) (by omega) rfl
  have e1 : me_weightOf_4 s (nn D) 0 0 = me_weightOf_4 s (nn D) c (nn (jnN t)) := e1
  rw [e1, me_weightOf_4_eq, w1, if_pos (yle (Nat.le_refl _) (by omega)), e2]
theorem weightOfM (h7 : jnN t ≤ 7) (w1 : s 183 56 = nn (jnN t)) (w3 : ∀ i, i < jnN t → s 222 i = wgV t i) {D : Nat} (hD : D < 256) : mo_weightOf s (nn D) = rI (swV t (wgV t) D (jnN t)) s := by
  rw [mo_weightOf_eq]
  obtain ⟨c, e1, e2⟩ := loopS (σ := Int32) (fun c k => mo_weightOf_4 s (nn D) c (nn k)) (jnN t) (fun k c => c = swV t (wgV t) D k) (i0 := 0) (s0 := 0) (fun k c hk hI => by
    show ∃ c', mo_weightOf_4 s (nn D) c (nn k) = mo_weightOf_4 s (nn D) c' (nn (k + 1)) ∧ _
    refine ⟨c + (if D.testBit k = true then wgV t k else 0), ?_, by rw [hI]; rfl⟩
    rw [mo_weightOf_4_eq s (nn D) c (nn k), w1, if_neg (nle hk (by omega)), nn_b (i := k) (n := 8) (by omega) (by decide), gd_t, nn_n (by omega), w3 k hk, nn_s]
    by_cases b : D.testBit k = true
    · rw [if_pos ((bis1 hD (by omega)).mpr b), if_pos b]
    · rw [if_neg (fun z => b ((bis1 hD (by omega)).mp z)), if_neg b]) (by omega) rfl
  have e1 : mo_weightOf_4 s (nn D) 0 0 = mo_weightOf_4 s (nn D) c (nn (jnN t)) := e1
  rw [e1, mo_weightOf_4_eq, w1, if_pos (yle (Nat.le_refl _) (by omega)), e2]
end WGT
theorem xor_dn : ∀ B : Fin 128, ∀ k : Fin 7, B.val.testBit k.val = true → B.val ^^^ 2 ^ k.val < B.val := by decide +kernel
/-! the class's table of what comes behind -/
noncomputable def bhV (t s : mSt) (j R : Nat) (k : Nat) : Int32 := swV t (wgV t) R (jnN t) * lgV t j k + s (148 + k) (R ^^^ 2 ^ k)
def bhP (t s : mSt) (j R : Nat) : Prop := (R = 0 → s (148 + j) R = 0) ∧ (R ≠ 0 → s (148 + j) R = mnV 2147483647 (fun k => R.testBit k) (bhV t s j R) (jnN t)) ∧ -(2000000 * (pcN R (jnN t) : Int)) ≤ (s (148 + j) R).toInt ∧ (s (148 + j) R).toInt ≤ 2000000 * (pcN R (jnN t) : Int)
theorem bh_val {t s : mSt} (hJ : J t) (h7 : jnN t ≤ 7) {j R k : Nat} (hj : j < jnN t) (hk : k < jnN t) (hb : R.testBit k = true) (hP : -(2000000 * (pcN (R ^^^ 2 ^ k) (jnN t) : Int)) ≤ (s (148 + k) (R ^^^ 2 ^ k)).toInt ∧ (s (148 + k) (R ^^^ 2 ^ k)).toInt ≤ 2000000 * (pcN (R ^^^ 2 ^ k) (jnN t) : Int)) : (bhV t s j R k).toInt = wS (fun k => (wgV t k).toInt) R (jnN t) * (lgV t j k).toInt + (s (148 + k) (R ^^^ 2 ^ k)).toInt ∧ -(2000000 * (pcN R (jnN t) : Int)) ≤ (bhV t s j R k).toInt ∧ (bhV t s j R k).toInt ≤ 2000000 * (pcN R (jnN t) : Int) := by
  obtain ⟨a1, a2, a3⟩ := sw_i hJ R (jnN t) h7
  obtain ⟨g1, g2⟩ := lg_bd hJ hj hk
  have hp := pc_del hk hb
  have hpn := ctN_le (fun i => R.testBit i) (jnN t)
  have hpn' : pcN R (jnN t) ≤ jnN t := hpn
  have m := mul_bd (a := (swV t (wgV t) R (jnN t)).toInt) (b := (lgV t j k).toInt) (A := 8316) (M := 237) (by omega) (by omega) (by omega) g2 (by omega)
  have e1 := i32_mul (a := swV t (wgV t) R (jnN t)) (b := lgV t j k) (by omega) (by omega)
  unfold bhV
  rw [i32_add (by omega) (by omega), e1, ← a1]
  omega
