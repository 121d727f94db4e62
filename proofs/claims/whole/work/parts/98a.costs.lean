/-! the costs of sets, for every ship: the class -/
def coP (t : mSt) (j D : Nat) (v : Int32) : Prop := (fsB t j D = false → v = 2147483647) ∧ (fsB t j D = true → (D = 0 → v = 0) ∧ opI t j D v.toInt ∧ -100000000 ≤ v.toInt ∧ v.toInt ≤ 100000000)
section CST
variable {t s : mSt}
theorem co_for (hJ : J t) (h7 : jnN t ≤ 7) (hT : tbP t (2 ^ jnN t) s) {j D : Nat} (hj : j < nsh t) (hD : D < 2 ^ jnN t) : coP t j D (if fsB t j D = true then (if D = 0 then 0 else mnV 2147483647 (fun k => D.testBit k) (foV t s j D) (jnN t)) else 2147483647) := by
  obtain ⟨t1, t2, t3⟩ := hT
  have hR7 : 2 ^ jnN t ≤ 2 ^ 7 := Nat.pow_le_pow_right (by omega) h7
  refine ⟨fun h => by rw [h, if_neg (by decide)], fun h => ?_⟩
  rw [if_pos h]
  refine ⟨fun z => by rw [if_pos z], ?_, ?_⟩
  · intro z
    rw [if_neg z]
    have hx : ∀ R k, R < 2 ^ jnN t → k < jnN t → R.testBit k = true → R ^^^ 2 ^ k < 2 ^ jnN t := fun R k hR hk hb => xor_lt hR hk
    have em : (2147483647 : Int32).toInt = 2147483647 := rfl
    have hfo : ∀ k, k < jnN t → D.testBit k = true → _ := fun k hk hb => fo_val (s := s) hJ h7 hj hk (t3 (D ^^^ 2 ^ k) k (hx D k hD hk hb) hk).2.2
    refine ⟨fun k R => (s (148 + k) R).toInt, fun k hk => ?_, fun k R hk hR hR0 => ?_, ?_, ?_⟩
    · dsimp only
      rw [(t3 0 k (Nat.two_pow_pos _) hk).1 rfl]; rfl
    · have hP := t3 R k hR hk
      have hv : ∀ l, l < jnN t → R.testBit l = true → _ := fun l hl hb => bh_val (s := s) hJ h7 hk hl hb (t3 (R ^^^ 2 ^ l) l (hx R l hR hl hb) hl).2.2
      have hpn : pcN R (jnN t) ≤ jnN t := ctN_le _ _
      obtain ⟨-, q2, q3⟩ := mn_ok (M0 := 2147483647) (cd := fun l => R.testBit l) (vl := bhV t s k R) (jnN t) (fun l hl hb => by have := hv l hl hb; omega)
      dsimp only
      rw [hP.2.1 hR0]
      refine ⟨fun l hl hb => ?_, ?_⟩
      · have := q2 l hl hb
        rw [(hv l hl hb).1] at this
        exact this
      · obtain ⟨l, l1, l2, l3⟩ := q3 (has_bit hR hR0)
        exact ⟨l, l1, l2, by rw [l3, (hv l l1 l2).1]⟩
    · intro k hk hb
      obtain ⟨-, q2, -⟩ := mn_ok (M0 := 2147483647) (cd := fun l => D.testBit l) (vl := foV t s j D) (jnN t) (fun l hl hb => by have := hfo l hl hb; omega)
      have := q2 k hk hb
      rw [(hfo k hk hb).1] at this
      exact this
    · obtain ⟨-, -, q3⟩ := mn_ok (M0 := 2147483647) (cd := fun l => D.testBit l) (vl := foV t s j D) (jnN t) (fun l hl hb => by have := hfo l hl hb; omega)
      obtain ⟨k, k1, k2, k3⟩ := q3 (has_bit hD z)
      exact ⟨k, k1, k2, by rw [k3, (hfo k k1 k2).1]⟩
  · by_cases z : D = 0
    · rw [if_pos z]; decide
    · rw [if_neg z]
      have hfo : ∀ k, k < jnN t → D.testBit k = true → _ := fun k hk hb => fo_val (s := s) hJ h7 hj hk (t3 (D ^^^ 2 ^ k) k (xor_lt hD hk) hk).2.2
      have em : (2147483647 : Int32).toInt = 2147483647 := rfl
      obtain ⟨-, -, q3⟩ := mn_ok (M0 := 2147483647) (cd := fun l => D.testBit l) (vl := foV t s j D) (jnN t) (fun l hl hb => by have := hfo l hl hb; omega)
      obtain ⟨k, k1, k2, k3⟩ := q3 (has_bit hD z)
      rw [k3]
      exact (hfo k k1 k2).2
def shL : List Nat := [156, 157, 158]
theorem shL_b {j : Nat} (hj : j < 3) : shL.contains (156 + j) = true := by
  have : ∀ j < 3, shL.contains (156 + j) = true := by decide
  exact this j hj
theorem shipsC (hJ : J t) (h7 : jnN t ≤ 7) (hw : jwP t s) (hT : tbP t (2 ^ jnN t) s) : ∃ s', me_measure_140 s 0 = rV s' ∧ Ch shL [] s s' ∧ ∀ j D, j < nsh t → D < 2 ^ jnN t → coP t j D (s' (156 + j) D) := by
  obtain ⟨en, h3, ei⟩ := nsh_ok hJ
  have hR7 : 2 ^ jnN t ≤ 2 ^ 7 := Nat.pow_le_pow_right (by omega) h7
  have hpw := bpow (k := jnN t) (by omega)
  have keep : ∀ s1, Ch shL [] s s1 → jwP t s1 ∧ tbP t (2 ^ jnN t) s1 := fun s1 c => by
    have cm : Ch meL [] s s1 := Ch_sub c rfl rfl
    refine ⟨jw_ch hw cm, ?_⟩
    have e1 : ∀ j, j < 7 → s1 (139 + j) = s (139 + j) ∧ s1 (148 + j) = s (148 + j) := fun j hj => by
      have n1 : ∀ j < 7, shL.contains (139 + j) = false ∧ shL.contains (148 + j) = false := by decide
      exact ⟨c.1 _ (n1 j hj).1 (by
        have : ∀ j < 7, Nat.beq (139 + j) 183 = false := by decide
        exact this j hj), c.1 _ (n1 j hj).2 (by
        have : ∀ j < 7, Nat.beq (148 + j) 183 = false := by decide
        exact this j hj)⟩
    obtain ⟨t1, t2, t3⟩ := hT
    refine ⟨fun j k hj hk => by rw [(e1 j (by omega)).1]; exact t1 j k hj hk, fun R hR => by rw [c.1 146 rfl rfl]; exact t2 R hR, fun R j hR hj => ?_⟩
    have hP := t3 R j hR hj
    have hat : s1 (148 + j) = s (148 + j) := (e1 j (by omega)).2
    have mne : ∀ n, n ≤ jnN t → mnV 2147483647 (fun k => R.testBit k) (bhV t s1 j R) n = mnV 2147483647 (fun k => R.testBit k) (bhV t s j R) n := by
      intro n
      induction n with
      | zero => intro _; rfl
      | succ n ih =>
        intro hn
        show (if R.testBit n = true then jMin (mnV 2147483647 (fun k => R.testBit k) (bhV t s1 j R) n) (bhV t s1 j R n) else mnV 2147483647 (fun k => R.testBit k) (bhV t s1 j R) n) = (if R.testBit n = true then jMin (mnV 2147483647 (fun k => R.testBit k) (bhV t s j R) n) (bhV t s j R n) else mnV 2147483647 (fun k => R.testBit k) (bhV t s j R) n)
        have : bhV t s1 j R n = bhV t s j R n := by unfold bhV; rw [(e1 n (by omega)).2]
        rw [ih (by omega), this]
    exact ⟨fun z => by rw [hat]; exact hP.1 z, fun z => by rw [hat, mne _ (Nat.le_refl _)]; exact hP.2.1 z, by rw [hat]; exact hP.2.2⟩
  obtain ⟨s1, e1, e2, e3⟩ := loopS (σ := mSt) (fun s1 j => me_measure_140 s1 (nn j)) (nsh t) (fun j s1 => Ch shL [] s s1 ∧ ∀ i D, i < j → D < 2 ^ jnN t → coP t i D (s1 (156 + i) D)) (i0 := 0) (s0 := s) (fun j s1 hj hI => by
    show ∃ s', me_measure_140 s1 (nn j) = me_measure_140 s' (nn (j + 1)) ∧ _
    obtain ⟨i1, i2⟩ := hI
    have hK1 := (keep s1 i1).1.1
    obtain ⟨s2, f1, f2, f3, f4⟩ := loopS (σ := mSt) (fun s2 D => me_measure_153 s2 (nn j) (nn D)) (2 ^ jnN t) (fun D s2 => Ch shL [] s s2 ∧ (∀ x, x ≠ 156 + j → s2 x = s1 x) ∧ ∀ E, E < D → coP t j E (s2 (156 + j) E)) (i0 := 0) (s0 := s1) (fun D s2 hD hI' => by
      show ∃ s', me_measure_153 s2 (nn j) (nn D) = me_measure_153 s' (nn j) (nn (D + 1)) ∧ _
      obtain ⟨c1, c2, c3⟩ := hI'
      obtain ⟨hw2, hT2⟩ := keep s2 c1
      have hcf := costForC hJ h7 hw2 hT2 hj hD
      have hco := co_for hJ h7 hT2 hj hD
      generalize (if fsB t j D = true then (if D = 0 then 0 else mnV 2147483647 (fun k => D.testBit k) (foV t s2 j D) (jnN t)) else 2147483647) = v at *
      refine ⟨wr s2 (156 + j) D v, ?_, Ch_w (shL_b (by omega)) (beq183 (by omega)) c1, fun x hx => by rw [wr_ne _ _ _ hx]; exact c2 x hx, fun E hE => ?_⟩
      · rw [me_measure_153_eq s2 (nn j) (nn D), hw2.2.1, hpw, if_neg (nle hD (by omega)), nn_b (i := j) (n := 3) (by omega) (by decide), gd_t, hcf, bI_rI, nn_n (by omega), blt_t (show j < 3 by omega), gd_t, nn_b (i := D) (n := 128) (by omega) (by decide), gd_t, nn_n (by omega), nn_s]
      · rw [wr_at]
        by_cases e : E = D
        · rw [e, upd_at]; exact hco
        · rw [upd_ne e]; exact c3 E (by omega)) (Nat.zero_le _) ⟨i1, fun _ _ => rfl, fun E hE => by omega⟩
    have f1 : me_measure_153 s1 (nn j) 0 = me_measure_153 s2 (nn j) (nn (2 ^ jnN t)) := f1
    refine ⟨s2, ?_, f2, fun i D hi hD => ?_⟩
    · rw [me_measure_140_eq s1 (nn j), K_at hK1 129 rfl, en, if_neg (nle hj (by omega)), f1, me_measure_153_eq, (keep s2 f2).1.2.1, hpw, if_pos (yle (Nat.le_refl _) (by omega)), nn_s]
    · by_cases e : i = j
      · rw [e]; exact f4 D hD
      · rw [f3 (156 + i) (by omega)]; exact i2 i D (by omega) hD) (by omega) ⟨Ch_rf, fun i D hi => by omega⟩
  have e1 : me_measure_140 s 0 = me_measure_140 s1 (nn (nsh t)) := e1
  refine ⟨s1, ?_, e2, e3⟩
  rw [e1, me_measure_140_eq, K_at (keep s1 e2).1.1 129 rfl, en, if_pos (yle (Nat.le_refl _) (by omega))]
theorem measureAllC (hJ : J t) (h7 : jnN t ≤ 7) (hw : jwP t s) : ∃ s', me_measure s = rV s' ∧ Ch meL [] s s' ∧ ∀ j D, j < nsh t → D < 2 ^ jnN t → coP t j D (s' (156 + j) D) := by
  obtain ⟨s1, a1, a2, a3⟩ := legsC hJ h7 hw
  obtain ⟨s2, b1, b2, b3⟩ := setsC hJ h7 (jw_ch hw a2) a3
  obtain ⟨s3, c1, c2, c3⟩ := shipsC hJ h7 (jw_ch hw (Ch_tr a2 b2)) b3
  exact ⟨s3, by rw [a1, b1, c1], Ch_tr (Ch_tr a2 b2) (Ch_sub c2 rfl rfl), c3⟩
end CST
