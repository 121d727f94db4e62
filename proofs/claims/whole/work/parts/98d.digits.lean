/-! partings as numbers -/
def dgN (m n c k : Nat) : Nat := c / m ^ (n - (k + 1)) % m
def mkF (v : Nat → Nat) (j : Nat) : Nat → Nat
  | 0 => 0
  | k + 1 => mkF v j k ||| (if v k = j then 2 ^ k else 0)
theorem if_bit {p : Prop} [Decidable p] {i q : Nat} : (if p then 2 ^ i else 0 : Nat).testBit q = (decide p && decide (i = q)) := by
  by_cases h : p
  · rw [if_pos h, Nat.testBit_two_pow, decide_eq_true h, Bool.true_and]
  · rw [if_neg h, Nat.zero_testBit, decide_eq_false h, Bool.false_and]
theorem mk_bit (v : Nat → Nat) (j q : Nat) : ∀ n, (mkF v j n).testBit q = (decide (q < n) && decide (v q = j)) := by
  intro n
  induction n with
  | zero => rw [show mkF v j 0 = 0 from rfl, Nat.zero_testBit]; rfl
  | succ n ih =>
    show (mkF v j n ||| (if v n = j then 2 ^ n else 0)).testBit q = _
    rw [Nat.testBit_or, ih, if_bit]
    by_cases e : n = q
    · rw [e, decide_eq_false (Nat.lt_irrefl q), decide_eq_true (Nat.lt_succ_self q), decide_eq_true rfl, Bool.false_and, Bool.false_or, Bool.and_true, Bool.true_and]
    · rw [decide_eq_false e, Bool.and_false, Bool.or_false]
      by_cases h : q < n
      · rw [decide_eq_true h, decide_eq_true (show q < n + 1 by omega)]
      · rw [decide_eq_false h, decide_eq_false (show ¬ q < n + 1 by omega)]
theorem mk_lt (v : Nat → Nat) (j n : Nat) : mkF v j n < 2 ^ n := by
  apply Nat.lt_pow_two_of_testBit
  intro i hi
  rw [mk_bit, decide_eq_false (by omega), Bool.false_and]
theorem mk_cg {v w : Nat → Nat} {n : Nat} (h : ∀ k, k < n → v k = w k) (j : Nat) : mkF v j n = mkF w j n := by
  apply Nat.eq_of_testBit_eq
  intro q
  rw [mk_bit, mk_bit]
  by_cases c : q < n
  · rw [h q c]
  · rw [decide_eq_false c, Bool.false_and, Bool.false_and]
def vup (v : Nat → Nat) (i x : Nat) : Nat → Nat := fun k => if k = i then x else v k
theorem mk_x (v : Nat → Nat) {i n : Nat} (x j : Nat) (hi : i < n) : mkF (vup v i x) j n = (mkF v j n ^^^ (if v i = j then 2 ^ i else 0)) ^^^ (if x = j then 2 ^ i else 0) := by
  apply Nat.eq_of_testBit_eq
  intro q
  rw [Nat.testBit_xor, Nat.testBit_xor, if_bit, if_bit, mk_bit, mk_bit]
  unfold vup
  by_cases e : q = i
  · subst e
    rw [if_pos rfl, decide_eq_true hi, decide_eq_true rfl, Bool.and_true, Bool.and_true, Bool.true_and, Bool.true_and, Bool.xor_self, Bool.false_xor]
  · rw [if_neg e, decide_eq_false (show ¬ i = q from fun z => e z.symm), Bool.and_false, Bool.and_false, Bool.xor_false, Bool.xor_false]
theorem mk_o (v : Nat → Nat) {i n : Nat} (x j : Nat) (hi : i < n) (hv : v i ≠ j) : mkF (vup v i x) j n = mkF v j n ||| (if x = j then 2 ^ i else 0) := by
  apply Nat.eq_of_testBit_eq
  intro q
  rw [Nat.testBit_or, if_bit, mk_bit, mk_bit]
  unfold vup
  by_cases e : q = i
  · subst e
    rw [if_pos rfl, decide_eq_true hi, decide_eq_true rfl, Bool.and_true, Bool.true_and, Bool.true_and, decide_eq_false hv, Bool.false_or]
  · rw [if_neg e, decide_eq_false (show ¬ i = q from fun z => e z.symm), Bool.and_false, Bool.or_false]
section DIG
variable {m n c i : Nat}
theorem dg_lt (hm : 0 < m) (c k : Nat) : dgN m n c k < m := Nat.mod_lt _ hm
theorem dg_zero (hm : 0 < m) (k : Nat) : dgN m n 0 k = 0 := by unfold dgN; rw [Nat.zero_div, Nat.zero_mod]
/-- what stands above the carried digits -/
theorem dg_q (hm : 0 < m) {e : Nat} (hd : m ^ e ∣ c + 1) : ∃ q, c + 1 = m ^ e * (q + 1) ∧ c / m ^ e = q ∧ (c + 1) / m ^ e = q + 1 := by
  obtain ⟨q, hq⟩ := hd
  have hb : 0 < m ^ e := Nat.pow_pos hm
  cases q with
  | zero => rw [Nat.mul_zero] at hq; omega
  | succ q =>
    refine ⟨q, hq, ?_, ?_⟩
    · have : c = m ^ e * q + (m ^ e - 1) := by rw [Nat.mul_add, Nat.mul_one] at hq; omega
      rw [this, Nat.mul_add_div hb, Nat.div_eq_of_lt (by omega), Nat.add_zero]
    · rw [hq, Nat.mul_div_cancel_left _ hb]
theorem dg_carry (hm : 0 < m) (hi : i < n) (hd : m ^ (n - (i + 1)) ∣ c + 1) (ho : m ≤ dgN m n c i + 1) : m ^ (n - i) ∣ c + 1 := by
  obtain ⟨q, h1, h2, h3⟩ := dg_q hm hd
  unfold dgN at ho
  rw [h2] at ho
  have hl := Nat.mod_lt q hm
  have hdm := Nat.div_add_mod q m
  have e : n - i = n - (i + 1) + 1 := by omega
  rw [e, Nat.pow_succ, h1]
  apply Nat.mul_dvd_mul_left
  exact ⟨q / m + 1, by rw [Nat.mul_add, Nat.mul_one]; omega⟩
theorem dg_step (hm : 0 < m) (hi : i < n) (hc : c < m ^ n) (hd : m ^ (n - (i + 1)) ∣ c + 1) (ho : dgN m n c i + 1 < m) : c + 1 < m ^ n ∧ ∀ k, k < n → dgN m n (c + 1) k = if k = i then dgN m n c i + 1 else if k < i then dgN m n c k else 0 := by
  obtain ⟨q, h1, h2, h3⟩ := dg_q hm hd
  have ho' := ho
  unfold dgN at ho'
  rw [h2] at ho'
  have hdm := Nat.div_add_mod q m
  have hq1 : (q + 1) % m = q % m + 1 := by
    have : q + 1 = m * (q / m) + (q % m + 1) := by omega
    rw [this, Nat.mul_add_mod, Nat.mod_eq_of_lt ho']
  have hq2 : (q + 1) / m = q / m := by
    have : q + 1 = m * (q / m) + (q % m + 1) := by omega
    have h : (m * (q / m) + (q % m + 1)) / m = q / m := by rw [Nat.mul_add_div hm, Nat.div_eq_of_lt ho', Nat.add_zero]
    rw [← this] at h
    exact h
  refine ⟨?_, fun k hk => ?_⟩
  · have hne : c + 1 ≠ m ^ n := fun w => by
      have e : n = (n - (i + 1)) + (i + 1) := by omega
      rw [w] at h3
      rw [show m ^ n = m ^ (n - (i + 1)) * m ^ (i + 1) by rw [← Nat.pow_add]; congr 1, Nat.mul_div_cancel_left _ (Nat.pow_pos hm), Nat.pow_succ] at h3
      rw [← h3, Nat.mul_mod_left] at hq1
      omega
    omega
  · unfold dgN
    by_cases e : k = i
    · rw [if_pos e, e, h3, h2, hq1]
    · rw [if_neg e]
      by_cases l : k < i
      · rw [if_pos l]
        have ee : n - (k + 1) = (n - (i + 1)) + (1 + (i - k - 1)) := by omega
        rw [ee, Nat.pow_add, ← Nat.div_div_eq_div_mul, ← Nat.div_div_eq_div_mul, h3, h2, Nat.pow_add, Nat.pow_one, ← Nat.div_div_eq_div_mul, ← Nat.div_div_eq_div_mul, hq2]
      · rw [if_neg l]
        have ee : n - (i + 1) = (n - (k + 1)) + (1 + (k - i - 1)) := by omega
        rw [h1, ee, Nat.pow_add, Nat.mul_assoc, Nat.mul_div_cancel_left _ (Nat.pow_pos hm), Nat.pow_add, Nat.pow_one, Nat.mul_assoc, Nat.mul_mod_right]
theorem dg_end (hc : c < m ^ n) (hd : m ^ n ∣ c + 1) : c + 1 = m ^ n := by
  have := Nat.le_of_dvd (by omega) hd
  omega
end DIG
section FOT
variable {t s : mSt}
theorem tabM (hJ : J t) (h7 : jnN t ≤ 7) (hw : jmP t s) : ∃ s', mo_findOrder_6 s 0 = mo_findOrder_60 s' 1 0 ∧ Ch [223, 224] [] s s' ∧ ∀ j D, j < nsh t → D < 2 ^ jnN t → moP t j D (s' 223 (128 * j + D)) := by
  obtain ⟨en, h3, ei⟩ := nsh_ok hJ
  have em := (J_F hJ).1.1
  have hR7 : 2 ^ jnN t ≤ 2 ^ 7 := Nat.pow_le_pow_right (by omega) h7
  have hpw := bpow (k := jnN t) (by omega)
  have keep : ∀ s1, Ch [223, 224] [] s s1 → jmP t s1 := fun s1 c => ⟨K_ch c rfl rfl hw.1, by rw [c.2 56 rfl]; exact hw.2.1, fun i hi => by rw [c.1 221 rfl rfl]; exact hw.2.2.1 i hi, fun i hi => by rw [c.1 222 rfl rfl]; exact hw.2.2.2 i hi⟩
  obtain ⟨s1, e1, e2, e3⟩ := loopS (σ := mSt) (fun s1 j => mo_findOrder_6 s1 (nn j)) (nsh t) (fun j s1 => Ch [223, 224] [] s s1 ∧ ∀ i D, i < j → D < 2 ^ jnN t → moP t i D (s1 223 (128 * i + D))) (i0 := 0) (s0 := s) (fun j s1 hj hI => by
    show ∃ s', mo_findOrder_6 s1 (nn j) = mo_findOrder_6 s' (nn (j + 1)) ∧ _
    obtain ⟨i1, i2⟩ := hI
    obtain ⟨s2, f1, f2, f3, f4⟩ := loopS (σ := mSt) (fun s2 D => mo_findOrder_16 s2 (nn j) (nn D)) (2 ^ jnN t) (fun D s2 => Ch [223, 224] [] s s2 ∧ (∀ x, x < 128 * j → s2 223 x = s1 223 x) ∧ ∀ E, E < D → moP t j E (s2 223 (128 * j + E))) (i0 := 0) (s0 := s1) (fun D s2 hD hI' => by
      show ∃ s', mo_findOrder_16 s2 (nn j) (nn D) = mo_findOrder_16 s' (nn j) (nn (D + 1)) ∧ _
      obtain ⟨c1, c2, c3⟩ := hI'
      have hw2 := keep s2 c1
      obtain ⟨v, s3, g1, g2, g3⟩ := costByM hJ h7 hw2 hj hD
      have i7 : (128 : Int32) * nn j = nn (128 * j) := nn_m 128 j
      refine ⟨wr s3 223 (128 * j + D) v, ?_, Ch_w rfl rfl (Ch_tr c1 (Ch_sub g2 rfl rfl)), fun x hx => ?_, fun E hE => ?_⟩
      · rw [mo_findOrder_16_eq s2 (nn j) (nn D), hw2.2.1, hpw, if_neg (nle hD (by omega)), g1, bI_rI, i7, nn_a, nn_b (i := 128 * j + D) (n := 384) (by omega) (by decide), gd_t, nn_n (by omega), nn_s]
      · rw [wr_at, upd_ne (by omega), g2.1 223 rfl rfl]; exact c2 x hx
      · rw [wr_at]
        by_cases e : E = D
        · rw [e, upd_at]; exact g3
        · rw [upd_ne (by omega), g2.1 223 rfl rfl]; exact c3 E (by omega)) (Nat.zero_le _) ⟨i1, fun _ _ => rfl, fun E hE => by omega⟩
    have f1 : mo_findOrder_16 s1 (nn j) 0 = mo_findOrder_16 s2 (nn j) (nn (2 ^ jnN t)) := f1
    refine ⟨s2, ?_, f2, fun i D hi hD => ?_⟩
    · rw [mo_findOrder_6_eq s1 (nn j), K_m (keep s1 i1).1 49 rfl, em, en, if_neg (nle hj (by omega)), f1, mo_findOrder_16_eq, (keep s2 f2).2.1, hpw, if_pos (yle (Nat.le_refl _) (by omega)), nn_s]
    · by_cases e : i = j
      · rw [e]; exact f4 D hD
      · rw [f3 (128 * i + D) (by omega)]; exact i2 i D (by omega) hD) (by omega) ⟨Ch_rf, fun i D hi => by omega⟩
  have e1 : mo_findOrder_6 s 0 = mo_findOrder_6 s1 (nn (nsh t)) := e1
  refine ⟨s1, ?_, e2, e3⟩
  rw [e1, mo_findOrder_6_eq, K_m (keep s1 e2).1 49 rfl, em, en, if_pos (yle (Nat.le_refl _) (by omega))]
end FOT
