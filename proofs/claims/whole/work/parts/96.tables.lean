/-! the class's tables -/
def meL : List Nat := [139, 140, 141, 142, 143, 144, 145, 146, 148, 149, 150, 151, 152, 153, 154, 156, 157, 158]
theorem meL_a {j : Nat} (hj : j < 7) : meL.contains (139 + j) = true ∧ meL.contains (148 + j) = true := by
  have : ∀ j < 7, meL.contains (139 + j) = true ∧ meL.contains (148 + j) = true := by decide
  exact this j hj
theorem meL_b {j : Nat} (hj : j < 3) : meL.contains (156 + j) = true := by
  have : ∀ j < 3, meL.contains (156 + j) = true := by decide
  exact this j hj
section MEB
variable {t s : mSt}
/-- jobs and weights stand -/
def jwP (t s : mSt) : Prop := K t s ∧ s 135 3 = nn (jnN t) ∧ (∀ i, i < jnN t → s 136 i = nn (jI t i)) ∧ ∀ i, i < jnN t → s 137 i = wgV t i
theorem jw_ch {s' : mSt} (h : jwP t s) (c : Ch meL [] s s') : jwP t s' := ⟨K_ch c rfl rfl h.1, by rw [c.1 135 rfl rfl]; exact h.2.1, fun i hi => by rw [c.1 136 rfl rfl]; exact h.2.2.1 i hi, fun i hi => by rw [c.1 137 rfl rfl]; exact h.2.2.2 i hi⟩
theorem legsC (hJ : J t) (h7 : jnN t ≤ 7) (hw : jwP t s) : ∃ s', me_measure s = me_measure_81 s' 0 ∧ Ch meL [] s s' ∧ ∀ j k, j < jnN t → k < jnN t → s' (139 + j) k = lgV t j k := by
  obtain ⟨-, h8, -⟩ := nbr_ok hJ
  rw [me_measure_eq]
  obtain ⟨s1, e1, e2, e3⟩ := loopS (σ := mSt) (fun s1 j => me_measure_2 s1 (nn j)) (jnN t) (fun j s1 => Ch meL [] s s1 ∧ ∀ i k, i < j → k < jnN t → s1 (139 + i) k = lgV t i k) (i0 := 0) (s0 := s) (fun j s1 hj hI => by
    show ∃ s', me_measure_2 s1 (nn j) = me_measure_2 s' (nn (j + 1)) ∧ _
    obtain ⟨i1, i2⟩ := hI
    obtain ⟨-, w1, -, -⟩ := jw_ch hw i1
    obtain ⟨s2, f1, f2, f3, f4⟩ := loopS (σ := mSt) (fun s2 k => me_measure_12 s2 (nn j) (nn k)) (jnN t) (fun k s2 => Ch meL [] s s2 ∧ (∀ x, x ≠ 139 + j → s2 x = s1 x) ∧ ∀ l, l < k → s2 (139 + j) l = lgV t j l) (i0 := 0) (s0 := s1) (fun k s2 hk hI' => by
      show ∃ s', me_measure_12 s2 (nn j) (nn k) = me_measure_12 s' (nn j) (nn (k + 1)) ∧ _
      obtain ⟨c1, c2, c3⟩ := hI'
      obtain ⟨hK2, w1, w2, -⟩ := jw_ch hw c1
      have b1 := jI_lt hj
      have b2 := jI_lt hk
      refine ⟨wr s2 (139 + j) k (lgV t j k), ?_, Ch_w (meL_a (by omega)).1 (beq183 (by omega)) c1, fun x hx => by rw [wr_ne _ _ _ hx]; exact c2 x hx, fun l hl => ?_⟩
      · rw [me_measure_12_eq s2 (nn j) (nn k), w1, if_neg (nle hk (by omega)), nn_b (i := j) (n := 7) (by omega) (by decide), nn_b (i := k) (n := 7) (by omega) (by decide), nn_n (by omega), nn_n (by omega), blt_t (show j < 7 by omega)]
        simp only [gd_t]
        rw [w2 j hj, w2 k hk, bxCK hJ hK2 b1, bI_rI, w2 j hj, byCK hJ hK2 b1, bI_rI, hrCK hJ hK2 b2, bI_rI, nn_s]
        rfl
      · rw [wr_at]
        by_cases e : l = k
        · rw [e, upd_at]
        · rw [upd_ne e]; exact c3 l (by omega)) (by omega) ⟨i1, fun _ _ => rfl, fun l hl => by omega⟩
    have f1 : me_measure_12 s1 (nn j) 0 = me_measure_12 s2 (nn j) (nn (jnN t)) := f1
    obtain ⟨-, w1', -, -⟩ := jw_ch hw f2
    refine ⟨s2, ?_, f2, fun i k hi hk => ?_⟩
    · rw [me_measure_2_eq s1 (nn j), w1, if_neg (nle hj (by omega)), f1, me_measure_12_eq, w1', if_pos (yle (Nat.le_refl _) (by omega)), nn_s]
    · by_cases e : i = j
      · rw [e]; exact f4 k hk
      · rw [f3 (139 + i) (by omega)]; exact i2 i k (by omega) hk) (by omega) ⟨Ch_rf, fun i k hi => by omega⟩
  have e1 : me_measure_2 s 0 = me_measure_2 s1 (nn (jnN t)) := e1
  obtain ⟨-, w1, -, -⟩ := jw_ch hw e2
  refine ⟨s1, ?_, e2, e3⟩
  rw [e1, me_measure_2_eq, w1, if_pos (yle (Nat.le_refl _) (by omega))]
theorem costFromC (h7 : jnN t ≤ 7) (w1 : s 135 3 = nn (jnN t)) (hl : ∀ j k, j < jnN t → k < jnN t → s (139 + j) k = lgV t j k) {j R : Nat} (hj : j < jnN t) (hR : R < 2 ^ jnN t) (h146 : s 146 R = swV t (wgV t) R (jnN t)) : me_costFrom s (nn j) (nn R) = rI (if R = 0 then 0 else mnV 2147483647 (fun k => R.testBit k) (bhV t s j R) (jnN t)) s := by
  have hR7 : 2 ^ jnN t ≤ 2 ^ 7 := Nat.pow_le_pow_right (by omega) h7
  have go : ∀ M0, me_costFrom_14 s (nn j) (nn R) M0 0 = rI (mnV M0 (fun k => R.testBit k) (bhV t s j R) (jnN t)) s := fun M0 => by
    obtain ⟨c, e1, e2⟩ := loopS (σ := Int32) (fun c k => me_costFrom_14 s (nn j) (nn R) c (nn k)) (jnN t) (fun k c => c = mnV M0 (fun k => R.testBit k) (bhV t s j R) k) (i0 := 0) (s0 := M0) (fun k c hk hI => by
      show ∃ c', me_costFrom_14 s (nn j) (nn R) c (nn k) = me_costFrom_14 s (nn j) (nn R) c' (nn (k + 1)) ∧ _
      refine ⟨if R.testBit k = true then jMin c (bhV t s j R k) else c, ?_, by rw [hI]; rfl⟩
      rw [me_costFrom_14_eq s (nn j) (nn R) c (nn k), w1, if_neg (nle hk (by omega)), nn_s]
      by_cases b : R.testBit k = true
      · have hx := xor_dn ⟨R, by omega⟩ ⟨k, by omega⟩ b
        have hx : R ^^^ 2 ^ k < R := hx
        rw [if_pos ((bis1 (by omega) (by omega)).mpr b), if_pos b, bxor (by omega) (by omega), nn_b (i := R) (n := 128) (by omega) (by decide), nn_b (i := j) (n := 7) (by omega) (by decide), nn_b (i := k) (n := 7) (by omega) (by decide), nn_b (i := R ^^^ 2 ^ k) (n := 128) (by omega) (by decide), nn_n (by omega), nn_n (by omega), nn_n (by omega), nn_n (by omega), blt_t (show j < 7 by omega), blt_t (show k < 7 by omega)]
        simp only [gd_t]
        rw [h146, hl j k hj hk]
        rfl
      · rw [if_neg (fun z => b ((bis1 (by omega) (by omega)).mp z)), if_neg b]) (by omega) rfl
    have e1 : me_costFrom_14 s (nn j) (nn R) M0 0 = me_costFrom_14 s (nn j) (nn R) c (nn (jnN t)) := e1
    rw [e1, me_costFrom_14_eq, w1, if_pos (yle (Nat.le_refl _) (by omega)), e2]
  rw [me_costFrom_eq]
  by_cases z : R = 0
  · rw [if_pos (show nn R = 0 by rw [z]; rfl), go, if_pos z]
    have : ∀ n, mnV 0 (fun k => R.testBit k) (bhV t s j R) n = 0 := by
      intro n
      induction n with
      | zero => rfl
      | succ n ih =>
        show (if R.testBit n = true then _ else mnV 0 (fun k => R.testBit k) (bhV t s j R) n) = 0
        rw [z, Nat.zero_testBit, if_neg (by decide), ← z]
        exact ih
    rw [this]
  · rw [if_neg (show ¬ nn R = 0 from fun w => z ((nn_eq (j := 0) (by omega) (by omega)).mp w)), go, if_neg z]
def tbP (t : mSt) (N : Nat) (s : mSt) : Prop := (∀ j k, j < jnN t → k < jnN t → s (139 + j) k = lgV t j k) ∧ (∀ R, R < N → s 146 R = swV t (wgV t) R (jnN t)) ∧ ∀ R j, R < N → j < jnN t → bhP t s j R
theorem setsC (hJ : J t) (h7 : jnN t ≤ 7) (hw : jwP t s) (hl : ∀ j k, j < jnN t → k < jnN t → s (139 + j) k = lgV t j k) : ∃ s', me_measure_81 s 0 = me_measure_140 s' 0 ∧ Ch meL [] s s' ∧ tbP t (2 ^ jnN t) s' := by
  have hR7 : 2 ^ jnN t ≤ 2 ^ 7 := Nat.pow_le_pow_right (by omega) h7
  have hpw := bpow (k := jnN t) (by omega)
  obtain ⟨s1, e1, e2, e3⟩ := loopS (σ := mSt) (fun s1 R => me_measure_81 s1 (nn R)) (2 ^ jnN t) (fun R s1 => Ch meL [] s s1 ∧ tbP t R s1) (i0 := 0) (s0 := s) (fun R s1 hR hI => by
    show ∃ s', me_measure_81 s1 (nn R) = me_measure_81 s' (nn (R + 1)) ∧ _
    obtain ⟨i1, i2, i3, i4⟩ := hI
    obtain ⟨hK1, w1, w2, w3⟩ := jw_ch hw i1
    obtain ⟨s2, f1, f2, f3, f4, f5, f6⟩ := loopS (σ := mSt) (fun s2 j => me_measure_104 s2 (nn R) (nn j)) (jnN t) (fun j s2 => Ch meL [] s s2 ∧ (∀ x, (x < 148 ∨ 155 ≤ x) → x ≠ 146 → s2 x = s1 x) ∧ s2 146 = upd (s1 146) R (swV t (wgV t) R (jnN t)) ∧ (∀ k, k < jnN t → ∀ r, r ≠ R → s2 (148 + k) r = s1 (148 + k) r) ∧ ∀ i, i < j → bhP t s2 i R) (i0 := 0) (s0 := wr s1 146 R (swV t (wgV t) R (jnN t))) (fun j s2 hj hI' => by
      show ∃ s', me_measure_104 s2 (nn R) (nn j) = me_measure_104 s' (nn R) (nn (j + 1)) ∧ _
      obtain ⟨c1, c2, c3, c4, c5⟩ := hI'
      obtain ⟨hK2, v1, v2, v3⟩ := jw_ch hw c1
      have hl2 : ∀ j k, j < jnN t → k < jnN t → s2 (139 + j) k = lgV t j k := fun a b ha hb => by rw [c2 (139 + a) (by omega) (by omega)]; exact i2 a b ha hb
      have hcf := costFromC h7 v1 hl2 hj hR (by rw [c3, upd_at])
      have hxk : ∀ k, k < jnN t → R.testBit k = true → R ^^^ 2 ^ k < R := fun k hk hb => xor_dn ⟨R, by omega⟩ ⟨k, by omega⟩ hb
      generalize hv : (if R = 0 then 0 else mnV 2147483647 (fun k => R.testBit k) (bhV t s2 j R) (jnN t)) = v at *
      have bhV_eq : ∀ i k, k < jnN t → R.testBit k = true → bhV t (wr s2 (148 + j) R v) i R k = bhV t s2 i R k := fun i k hk hb => by
        have hx := hxk k hk hb
        unfold bhV
        by_cases e : 148 + k = 148 + j
        · rw [e, wr_at, upd_ne (by omega)]
        · rw [wr_ne _ _ _ e]
      have mn_eq : ∀ i, ∀ n, n ≤ jnN t → mnV 2147483647 (fun k => R.testBit k) (bhV t (wr s2 (148 + j) R v) i R) n = mnV 2147483647 (fun k => R.testBit k) (bhV t s2 i R) n := by
        intro i n
        induction n with
        | zero => intro _; rfl
        | succ n ih =>
          intro hn
          show (if R.testBit n = true then jMin (mnV 2147483647 (fun k => R.testBit k) (bhV t (wr s2 (148 + j) R v) i R) n) (bhV t (wr s2 (148 + j) R v) i R n) else mnV 2147483647 (fun k => R.testBit k) (bhV t (wr s2 (148 + j) R v) i R) n) = (if R.testBit n = true then jMin (mnV 2147483647 (fun k => R.testBit k) (bhV t s2 i R) n) (bhV t s2 i R n) else mnV 2147483647 (fun k => R.testBit k) (bhV t s2 i R) n)
          rw [ih (by omega)]
          by_cases b : R.testBit n = true
          · rw [if_pos b, if_pos b, bhV_eq i n (by omega) b]
          · rw [if_neg b, if_neg b]
      have hvals : ∀ k, k < jnN t → R.testBit k = true → (bhV t s2 j R k).toInt = wS (fun k => (wgV t k).toInt) R (jnN t) * (lgV t j k).toInt + (s2 (148 + k) (R ^^^ 2 ^ k)).toInt ∧ -(2000000 * (pcN R (jnN t) : Int)) ≤ (bhV t s2 j R k).toInt ∧ (bhV t s2 j R k).toInt ≤ 2000000 * (pcN R (jnN t) : Int) := fun k hk hb => by
        have hx := hxk k hk hb
        refine bh_val hJ h7 hj hk hb ?_
        rw [c4 k hk _ (by omega)]
        have := i4 (R ^^^ 2 ^ k) k hx hk
        exact this.2.2
      refine ⟨wr s2 (148 + j) R v, ?_, Ch_w (meL_a (by omega)).2 (beq183 (by omega)) c1, fun x hx1 hx2 => by rw [wr_ne _ _ _ (by omega)]; exact c2 x hx1 hx2, by rw [wr_ne _ _ _ (by omega)]; exact c3, fun k hk r hr => ?_, fun i hi => ?_⟩
      · rw [me_measure_104_eq s2 (nn R) (nn j), v1, if_neg (nle hj (by omega)), nn_b (i := j) (n := 7) (by omega) (by decide), gd_t, hcf, bI_rI, nn_n (by omega), blt_t (show j < 7 by omega), gd_t, nn_b (i := R) (n := 128) (by omega) (by decide), gd_t, nn_n (by omega), nn_s]
      · by_cases e : k = j
        · rw [e, wr_at, upd_ne hr, ← e]; exact c4 k hk r hr
        · rw [wr_ne _ _ _ (by omega)]; exact c4 k hk r hr
      · by_cases e : i = j
        · rw [e]
          have hat : wr s2 (148 + j) R v (148 + j) R = v := by rw [wr_at, upd_at]
          refine ⟨fun z => by rw [hat, ← hv, if_pos z], fun z => by rw [hat, mn_eq j _ (Nat.le_refl _), ← hv, if_neg z], ?_⟩
          rw [hat, ← hv]
          by_cases z : R = 0
          · rw [if_pos z]
            have u0 : (0 : Int32).toInt = 0 := rfl
            rw [u0]
            omega
          · rw [if_neg z]
            have hpn : pcN R (jnN t) ≤ jnN t := ctN_le _ _
            have em : (2147483647 : Int32).toInt = 2147483647 := rfl
            obtain ⟨-, -, q3⟩ := mn_ok (M0 := 2147483647) (cd := fun k => R.testBit k) (vl := bhV t s2 j R) (jnN t) (fun k hk hb => by have := hvals k hk hb; omega)
            obtain ⟨k, k1, k2, k3⟩ := q3 (has_bit hR z)
            rw [k3]
            exact (hvals k k1 k2).2
        · have hP := c5 i (by omega)
          have hat : wr s2 (148 + j) R v (148 + i) R = s2 (148 + i) R := by rw [wr_ne _ _ _ (by omega)]
          refine ⟨fun z => by rw [hat]; exact hP.1 z, fun z => by rw [hat, mn_eq i _ (Nat.le_refl _)]; exact hP.2.1 z, by rw [hat]; exact hP.2.2⟩) (by omega) ⟨Ch_w rfl rfl i1, fun x hx1 hx2 => wr_ne _ _ _ hx2, wr_at _ _ _ _, fun k _ r _ => by rw [wr_ne _ _ _ (by omega)], fun i hi => by omega⟩
    have f1 : me_measure_104 (wr s1 146 R (swV t (wgV t) R (jnN t))) (nn R) 0 = me_measure_104 s2 (nn R) (nn (jnN t)) := f1
    obtain ⟨hK2, v1, v2, v3⟩ := jw_ch hw f2
    refine ⟨s2, ?_, f2, fun j k hj hk => by rw [f3 (139 + j) (by omega) (by omega)]; exact i2 j k hj hk, fun r hr => ?_, fun r j hr hj => ?_⟩
    · rw [me_measure_81_eq s1 (nn R), w1, hpw, if_neg (nle hR (by omega)), weightOfC h7 w1 w3 (by omega), bI_rI, nn_b (i := R) (n := 128) (by omega) (by decide), gd_t, nn_n (by omega), f1, me_measure_104_eq, v1, if_pos (yle (Nat.le_refl _) (by omega)), nn_s]
    · rw [f4]
      by_cases e : r = R
      · rw [e, upd_at]
      · rw [upd_ne e]; exact i3 r (by omega)
    · by_cases e : r = R
      · rw [e]; exact f6 j hj
      · have hP := i4 r j (by omega) hj
        have hat : s2 (148 + j) r = s1 (148 + j) r := f5 j hj r e
        have bhe : ∀ k, k < jnN t → r.testBit k = true → bhV t s2 j r k = bhV t s1 j r k := fun k hk hb => by
          have hx := xor_dn ⟨r, by omega⟩ ⟨k, by omega⟩ hb
          have hx : r ^^^ 2 ^ k < r := hx
          unfold bhV
          rw [f5 k hk _ (by omega)]
        have mne : ∀ n, n ≤ jnN t → mnV 2147483647 (fun k => r.testBit k) (bhV t s2 j r) n = mnV 2147483647 (fun k => r.testBit k) (bhV t s1 j r) n := by
          intro n
          induction n with
          | zero => intro _; rfl
          | succ n ih =>
            intro hn
            show (if r.testBit n = true then jMin (mnV 2147483647 (fun k => r.testBit k) (bhV t s2 j r) n) (bhV t s2 j r n) else mnV 2147483647 (fun k => r.testBit k) (bhV t s2 j r) n) = (if r.testBit n = true then jMin (mnV 2147483647 (fun k => r.testBit k) (bhV t s1 j r) n) (bhV t s1 j r n) else mnV 2147483647 (fun k => r.testBit k) (bhV t s1 j r) n)
            rw [ih (by omega)]
            by_cases b : r.testBit n = true
            · rw [if_pos b, if_pos b, bhe n (by omega) b]
            · rw [if_neg b, if_neg b]
        exact ⟨fun z => by rw [hat]; exact hP.1 z, fun z => by rw [hat, mne _ (Nat.le_refl _)]; exact hP.2.1 z, by rw [hat]; exact hP.2.2⟩) (Nat.zero_le _) ⟨Ch_rf, hl, fun r hr => by omega, fun r j hr => by omega⟩
  have e1 : me_measure_81 s 0 = me_measure_81 s1 (nn (2 ^ jnN t)) := e1
  obtain ⟨-, w1, -, -⟩ := jw_ch hw e2
  refine ⟨s1, ?_, e2, e3⟩
  rw [e1, me_measure_81_eq, w1, hpw, if_pos (yle (Nat.le_refl _) (by omega))]
end MEB
