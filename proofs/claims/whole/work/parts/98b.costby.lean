/-! the costs of sets: the reference -/
theorem nn_or (a b : Nat) : nn a ||| nn b = nn (a ||| b) := by
  apply Int32.toBitVec_inj.mp
  rw [Int32.toBitVec_or]
  show BitVec.ofNat 32 a ||| BitVec.ofNat 32 b = BitVec.ofNat 32 (a ||| b)
  rw [BitVec.ofNat_or]
theorem or_sub {D S : Nat} : D ||| S = S ↔ sbS D S := by
  constructor
  · intro h i hi
    rw [← h, Nat.testBit_or, hi]; rfl
  · intro h
    apply Nat.eq_of_testBit_eq
    intro i
    rw [Nat.testBit_or]
    cases e : D.testBit i with
    | false => rw [Bool.false_or]
    | true => rw [h i e]; rfl
noncomputable def cbV (t s : mSt) (S D k p : Nat) : Int32 := s 224 (7 * (D ^^^ 2 ^ k) + p) + lgV t p k * (swV t (wgV t) S (jnN t) - swV t (wgV t) (D ^^^ 2 ^ k) (jnN t))
def cbP (t s : mSt) (j S D k : Nat) : Prop := (D ^^^ 2 ^ k = 0 → s 224 (7 * D + k) = szV t j k * swV t (wgV t) S (jnN t)) ∧ (D ^^^ 2 ^ k ≠ 0 → s 224 (7 * D + k) = mnV 1000000000 (fun p => (D ^^^ 2 ^ k).testBit p) (cbV t s S D k) (jnN t)) ∧ -(80000000 + 4000000 * (pcN D (jnN t) : Int)) ≤ (s 224 (7 * D + k)).toInt ∧ (s 224 (7 * D + k)).toInt ≤ 80000000 + 4000000 * (pcN D (jnN t) : Int)
/-- jobs and weights stand, for the reference -/
def jmP (t s : mSt) : Prop := K t s ∧ s 183 56 = nn (jnN t) ∧ (∀ i, i < jnN t → s 221 i = nn (jI t i)) ∧ ∀ i, i < jnN t → s 222 i = wgV t i
section CBY
variable {t s : mSt}
theorem jm_ch {s' : mSt} (h : jmP t s) (c : Ch [224] [] s s') : jmP t s' := ⟨K_ch c rfl rfl h.1, by rw [c.2 56 rfl]; exact h.2.1, fun i hi => by rw [c.1 221 rfl rfl]; exact h.2.2.1 i hi, fun i hi => by rw [c.1 222 rfl rfl]; exact h.2.2.2 i hi⟩
theorem legM (hJ : J t) (h7 : jnN t ≤ 7) (hw : jmP t s) {p k : Nat} (hp : p < jnN t) (hk : k < jnN t) : mo_legOf s (nn p) (nn k) = rI (lgV t p k) s := by
  obtain ⟨-, h8, -⟩ := nbr_ok hJ
  obtain ⟨hK, w1, w2, w3⟩ := hw
  have b1 := jI_lt hp
  have b2 := jI_lt hk
  have hb := bxy_bd (HB_of hJ b1)
  rw [mo_legOf_eq, nn_b (i := p) (n := 8) (by omega) (by decide), nn_b (i := k) (n := 8) (by omega) (by decide), nn_n (by omega), nn_n (by omega), w2 p hp, nn_b (i := jI t p) (n := 8) (by omega) (by decide), nn_n (by omega)]
  simp only [gd_t]
  rw [bxMK hJ hK b1, bI_rI, byMK hJ hK b1, bI_rI, w2 k hk, hrMK hJ hK b2 hb.1 hb.2, bI_rI]
  rfl
theorem cb_val (hJ : J t) (h7 : jnN t ≤ 7) {S D k p : Nat} (hp : p < jnN t) (hk : k < jnN t) (hb : D.testBit k = true) (hP : -(80000000 + 4000000 * (pcN (D ^^^ 2 ^ k) (jnN t) : Int)) ≤ (s 224 (7 * (D ^^^ 2 ^ k) + p)).toInt ∧ (s 224 (7 * (D ^^^ 2 ^ k) + p)).toInt ≤ 80000000 + 4000000 * (pcN (D ^^^ 2 ^ k) (jnN t) : Int)) : (cbV t s S D k p).toInt = (s 224 (7 * (D ^^^ 2 ^ k) + p)).toInt + (lgV t p k).toInt * (wS (fun k => (wgV t k).toInt) S (jnN t) - wS (fun k => (wgV t k).toInt) (D ^^^ 2 ^ k) (jnN t)) ∧ -(80000000 + 4000000 * (pcN D (jnN t) : Int)) ≤ (cbV t s S D k p).toInt ∧ (cbV t s S D k p).toInt ≤ 80000000 + 4000000 * (pcN D (jnN t) : Int) := by
  obtain ⟨a1, a2, a3⟩ := sw_i hJ S (jnN t) h7
  obtain ⟨c1, c2, c3⟩ := sw_i hJ (D ^^^ 2 ^ k) (jnN t) h7
  obtain ⟨g1, g2⟩ := lg_bd hJ hp hk
  have hpc := pc_del hk hb
  have hpn : pcN D (jnN t) ≤ jnN t := ctN_le _ _
  have e0 := i32_sub (a := swV t (wgV t) S (jnN t)) (b := swV t (wgV t) (D ^^^ 2 ^ k) (jnN t)) (by omega) (by omega)
  have m := mul_bd (a := (swV t (wgV t) S (jnN t) - swV t (wgV t) (D ^^^ 2 ^ k) (jnN t)).toInt) (b := (lgV t p k).toInt) (A := 16632) (M := 237) (by omega) (by omega) (by omega) g2 (by omega)
  have mc := Int.mul_comm (lgV t p k).toInt (swV t (wgV t) S (jnN t) - swV t (wgV t) (D ^^^ 2 ^ k) (jnN t)).toInt
  rw [← mc] at m
  clear mc
  generalize hg : (lgV t p k).toInt * (swV t (wgV t) S (jnN t) - swV t (wgV t) (D ^^^ 2 ^ k) (jnN t)).toInt = G at m
  have e1 := i32_mul (a := lgV t p k) (b := swV t (wgV t) S (jnN t) - swV t (wgV t) (D ^^^ 2 ^ k) (jnN t)) (by rw [hg]; omega) (by rw [hg]; omega)
  rw [hg] at e1
  unfold cbV
  rw [i32_add (by omega) (by omega), e1, ← a1, ← c1, ← e0, hg]
  omega
theorem cb_first (hJ : J t) (h7 : jnN t ≤ 7) {j S k : Nat} (hj : j < nsh t) (hk : k < jnN t) : (szV t j k * swV t (wgV t) S (jnN t)).toInt = (szV t j k).toInt * wS (fun k => (wgV t k).toInt) S (jnN t) ∧ -80000000 ≤ (szV t j k * swV t (wgV t) S (jnN t)).toInt ∧ (szV t j k * swV t (wgV t) S (jnN t)).toInt ≤ 80000000 := by
  obtain ⟨a1, a2, a3⟩ := sw_i hJ S (jnN t) h7
  obtain ⟨g1, g2⟩ := st_bd hJ hj hk
  have m := mul_bd (a := (swV t (wgV t) S (jnN t)).toInt) (b := (szV t j k).toInt) (A := 8316) (M := 9060) (by omega) (by omega) (by omega) g2 (by omega)
  have mc := Int.mul_comm (szV t j k).toInt (swV t (wgV t) S (jnN t)).toInt
  rw [← mc] at m
  clear mc
  generalize hg : (szV t j k).toInt * (swV t (wgV t) S (jnN t)).toInt = G at m
  have e1 := i32_mul (a := szV t j k) (b := swV t (wgV t) S (jnN t)) (by rw [hg]; omega) (by rw [hg]; omega)
  rw [e1, ← a1, hg]
  omega
/-- one cell of the table -/
theorem cell202 (hJ : J t) (h7 : jnN t ≤ 7) (hw : jmP t s) {S D k : Nat} (hS : S < 2 ^ jnN t) (hD : D < 2 ^ jnN t) (hk : k < jnN t) (hb : D.testBit k = true) (x1 b M0 : Int32) : mo_costBy_202 s x1 (nn S) (swV t (wgV t) S (jnN t)) b (nn D) (nn k) (nn (D ^^^ 2 ^ k)) M0 0 = mo_costBy_113 (wr s 224 (7 * D + k) (mnV M0 (fun p => (D ^^^ 2 ^ k).testBit p) (cbV t s S D k) (jnN t))) x1 (nn S) (swV t (wgV t) S (jnN t)) (if D = S then jMin b (mnV M0 (fun p => (D ^^^ 2 ^ k).testBit p) (cbV t s S D k) (jnN t)) else b) (nn D) (nn (k + 1)) := by
  obtain ⟨hK, w1, w2, w3⟩ := id hw
  have hR7 : 2 ^ jnN t ≤ 2 ^ 7 := Nat.pow_le_pow_right (by omega) h7
  have hX : D ^^^ 2 ^ k < 2 ^ jnN t := xor_lt hD hk
  have i7 : (7 : Int32) * nn D = nn (7 * D) := nn_m 7 D
  have i7' : (7 : Int32) * nn (D ^^^ 2 ^ k) = nn (7 * (D ^^^ 2 ^ k)) := nn_m 7 _
  obtain ⟨c, e1, e2⟩ := loopS (σ := Int32) (fun c p => mo_costBy_202 s x1 (nn S) (swV t (wgV t) S (jnN t)) b (nn D) (nn k) (nn (D ^^^ 2 ^ k)) c (nn p)) (jnN t) (fun p c => c = mnV M0 (fun p => (D ^^^ 2 ^ k).testBit p) (cbV t s S D k) p) (i0 := 0) (s0 := M0) (fun p c hp hI => by
    show ∃ c', mo_costBy_202 s x1 (nn S) (swV t (wgV t) S (jnN t)) b (nn D) (nn k) (nn (D ^^^ 2 ^ k)) c (nn p) = mo_costBy_202 s x1 (nn S) (swV t (wgV t) S (jnN t)) b (nn D) (nn k) (nn (D ^^^ 2 ^ k)) c' (nn (p + 1)) ∧ _
    refine ⟨if (D ^^^ 2 ^ k).testBit p = true then jMin c (cbV t s S D k p) else c, ?_, by rw [hI]; rfl⟩
    rw [mo_costBy_202_eq s x1 (nn S) _ b (nn D) (nn k) (nn (D ^^^ 2 ^ k)) c (nn p), w1, if_neg (nle hp (by omega)), nn_s]
    by_cases q : (D ^^^ 2 ^ k).testBit p = true
    · rw [if_pos ((bis1 (by omega) (by omega)).mpr q), if_pos q, i7', nn_a, nn_b (i := 7 * (D ^^^ 2 ^ k) + p) (n := 896) (by omega) (by decide), gd_t, nn_n (by omega), legM hJ h7 hw hp hk, bI_rI, weightOfM h7 w1 w3 (by omega), bI_rI]
      show (if c ≤ cbV t s S D k p then _ else mo_costBy_202 s x1 (nn S) _ b (nn D) (nn k) (nn (D ^^^ 2 ^ k)) (cbV t s S D k p) (nn (p + 1))) = _
      unfold jMin
      by_cases z : cbV t s S D k p < c
      · rw [if_pos z, if_neg (Int32.not_le.mpr z)]
      · rw [if_neg z, if_pos (Int32.not_lt.mp z)]
    · rw [if_neg (fun z => q ((bis1 (by omega) (by omega)).mp z)), if_neg q]) (by omega) rfl
  have e1 : mo_costBy_202 s x1 (nn S) (swV t (wgV t) S (jnN t)) b (nn D) (nn k) (nn (D ^^^ 2 ^ k)) M0 0 = mo_costBy_202 s x1 (nn S) (swV t (wgV t) S (jnN t)) b (nn D) (nn k) (nn (D ^^^ 2 ^ k)) c (nn (jnN t)) := e1
  rw [e1, mo_costBy_202_eq, w1, if_pos (yle (Nat.le_refl _) (by omega)), i7, nn_a, nn_b (i := 7 * D + k) (n := 896) (by omega) (by decide), gd_t, nn_n (by omega), nn_s, ← e2]
  by_cases e : D = S
  · rw [if_pos (by rw [e]), if_pos e]
    unfold jMin
    by_cases z : c < b
    · rw [if_pos z, if_neg (Int32.not_le.mpr z)]
    · rw [if_neg z, if_pos (Int32.not_lt.mp z)]
  · rw [if_neg (fun z => e ((nn_eq (by omega) (by omega)).mp z)), if_neg e]
theorem costTab (hJ : J t) (h7 : jnN t ≤ 7) (hw : jmP t s) {j S : Nat} (hj : j < nsh t) (hS : S < 2 ^ jnN t) (hS0 : S ≠ 0) : ∃ s', mo_costBy_104 s (nn j) (nn S) (swV t (wgV t) S (jnN t)) 1000000000 1 = rI (mnV 1000000000 (fun k => S.testBit k) (fun k => s' 224 (7 * S + k)) (jnN t)) s' ∧ Ch [224] [] s s' ∧ ∀ D, D < S + 1 → sbS D S → ∀ k, k < jnN t → D.testBit k = true → cbP t s' j S D k := by
  obtain ⟨en, h3, ei⟩ := nsh_ok hJ
  have hR7 : 2 ^ jnN t ≤ 2 ^ 7 := Nat.pow_le_pow_right (by omega) h7
  obtain ⟨-, ⟨q1, q2, q3, q4, q5⟩⟩ := id (J_F hJ)
  have e11 := (J_B hJ).1.1
  have cb_cg : ∀ (s1 s2 : mSt) (D k : Nat), (∀ p, p < jnN t → (D ^^^ 2 ^ k).testBit p = true → s1 224 (7 * (D ^^^ 2 ^ k) + p) = s2 224 (7 * (D ^^^ 2 ^ k) + p)) → ∀ n, n ≤ jnN t → mnV 1000000000 (fun p => (D ^^^ 2 ^ k).testBit p) (cbV t s1 S D k) n = mnV 1000000000 (fun p => (D ^^^ 2 ^ k).testBit p) (cbV t s2 S D k) n := by
    intro s1 s2 D k h n
    induction n with
    | zero => intro _; rfl
    | succ n ih =>
      intro hn
      show (if (D ^^^ 2 ^ k).testBit n = true then jMin (mnV 1000000000 (fun p => (D ^^^ 2 ^ k).testBit p) (cbV t s1 S D k) n) (cbV t s1 S D k n) else mnV 1000000000 (fun p => (D ^^^ 2 ^ k).testBit p) (cbV t s1 S D k) n) = (if (D ^^^ 2 ^ k).testBit n = true then jMin (mnV 1000000000 (fun p => (D ^^^ 2 ^ k).testBit p) (cbV t s2 S D k) n) (cbV t s2 S D k n) else mnV 1000000000 (fun p => (D ^^^ 2 ^ k).testBit p) (cbV t s2 S D k) n)
      rw [ih (by omega)]
      by_cases b : (D ^^^ 2 ^ k).testBit n = true
      · have : cbV t s1 S D k n = cbV t s2 S D k n := by unfold cbV; rw [h n (by omega) b]
        rw [if_pos b, if_pos b, this]
      · rw [if_neg b, if_neg b]
  obtain ⟨⟨s1, b⟩, e1, e2, e3, e4⟩ := loopS (σ := mSt × Int32) (fun r D => mo_costBy_104 r.1 (nn j) (nn S) (swV t (wgV t) S (jnN t)) r.2 (nn D)) (S + 1) (fun D r => Ch [224] [] s r.1 ∧ (∀ E, E < D → sbS E S → ∀ k, k < jnN t → E.testBit k = true → cbP t r.1 j S E k) ∧ r.2 = if D ≤ S then 1000000000 else mnV 1000000000 (fun k => S.testBit k) (fun k => r.1 224 (7 * S + k)) (jnN t)) (i0 := 1) (s0 := (s, 1000000000)) (fun D r hD hI => by
    obtain ⟨s1, b⟩ := r
    show ∃ r' : mSt × Int32, mo_costBy_104 s1 (nn j) (nn S) (swV t (wgV t) S (jnN t)) b (nn D) = mo_costBy_104 r'.1 (nn j) (nn S) (swV t (wgV t) S (jnN t)) r'.2 (nn (D + 1)) ∧ _
    obtain ⟨i1, i2, i3⟩ := hI
    have i1 : Ch [224] [] s s1 := i1
    have i2 : ∀ E, E < D → sbS E S → ∀ k, k < jnN t → E.testBit k = true → cbP t s1 j S E k := i2
    have i3 : b = if D ≤ S then 1000000000 else mnV 1000000000 (fun k => S.testBit k) (fun k => s1 224 (7 * S + k)) (jnN t) := i3
    rw [if_pos (by omega)] at i3
    obtain ⟨hK1, w1, w2, w3⟩ := jm_ch hw i1
    have hDn : D < 2 ^ jnN t := by omega
    have hn0 : 0 < jnN t := by
      obtain ⟨i, hi, -⟩ := has_bit hS hS0
      omega
    rw [mo_costBy_104_eq s1 (nn j) (nn S) _ b (nn D), if_neg (nlt (by omega) (by omega))]
    by_cases hs : sbS D S
    · have hor : nn D ||| nn S = nn S := by rw [nn_or, or_sub.mpr hs]
      obtain ⟨⟨s2, b2⟩, f1, f2, f3, f4, f5⟩ := loopS (σ := mSt × Int32) (fun r k => mo_costBy_113 r.1 (nn j) (nn S) (swV t (wgV t) S (jnN t)) r.2 (nn D) (nn k)) (jnN t) (fun k r => Ch [224] [] s r.1 ∧ (∀ x, (x < 7 * D ∨ 7 * D + 7 ≤ x) → r.1 224 x = s1 224 x) ∧ (∀ i, i < k → D.testBit i = true → cbP t r.1 j S D i) ∧ r.2 = if D = S then mnV 1000000000 (fun k => S.testBit k) (fun k => r.1 224 (7 * S + k)) k else 1000000000) (i0 := 0) (s0 := (s1, b)) (fun k r hk hI' => by
        obtain ⟨s2, b2⟩ := r
        show ∃ r' : mSt × Int32, mo_costBy_113 s2 (nn j) (nn S) (swV t (wgV t) S (jnN t)) b2 (nn D) (nn k) = mo_costBy_113 r'.1 (nn j) (nn S) (swV t (wgV t) S (jnN t)) r'.2 (nn D) (nn (k + 1)) ∧ _
        obtain ⟨c1, c2, c3, c4⟩ := hI'
        have c1 : Ch [224] [] s s2 := c1
        have c2 : ∀ x, (x < 7 * D ∨ 7 * D + 7 ≤ x) → s2 224 x = s1 224 x := c2
        have c3 : ∀ i, i < k → D.testBit i = true → cbP t s2 j S D i := c3
        have c4 : b2 = if D = S then mnV 1000000000 (fun k => S.testBit k) (fun k => s2 224 (7 * S + k)) k else 1000000000 := c4
        have hw2 := jm_ch hw c1
        obtain ⟨hK2, v1, v2, v3⟩ := id hw2
        have b1 := jI_lt hk
        rw [mo_costBy_113_eq s2 (nn j) (nn S) _ b2 (nn D) (nn k), v1, if_neg (nle hk (by omega)), hor, if_pos rfl]
        by_cases bt : D.testBit k = true
        · have hx := xor_dn ⟨D, by omega⟩ ⟨k, by omega⟩ bt
          have hx : D ^^^ 2 ^ k < D := hx
          have hsub' : sbS (D ^^^ 2 ^ k) S := fun i hi => by
            rw [tb_xor] at hi
            by_cases e : k = i
            · rw [← e]; exact hs k bt
            · rw [decide_eq_false e, Bool.xor_false] at hi; exact hs i hi
          -- the value of this cell, and what follows
          have go : ∀ M0, (D ^^^ 2 ^ k = 0 → M0 = szV t j k * swV t (wgV t) S (jnN t)) → (D ^^^ 2 ^ k ≠ 0 → M0 = 1000000000) → ∃ r' : mSt × Int32, mo_costBy_202 s2 (nn j) (nn S) (swV t (wgV t) S (jnN t)) b2 (nn D) (nn k) (nn (D ^^^ 2 ^ k)) M0 0 = mo_costBy_113 r'.1 (nn j) (nn S) (swV t (wgV t) S (jnN t)) r'.2 (nn D) (nn (k + 1)) ∧ Ch [224] [] s r'.1 ∧ (∀ x, (x < 7 * D ∨ 7 * D + 7 ≤ x) → r'.1 224 x = s1 224 x) ∧ (∀ i, i < k + 1 → D.testBit i = true → cbP t r'.1 j S D i) ∧ r'.2 = if D = S then mnV 1000000000 (fun k => S.testBit k) (fun k => r'.1 224 (7 * S + k)) (k + 1) else 1000000000 := fun M0 m1 m2 => by
            rw [cell202 hJ h7 hw2 hS hDn hk bt]
            have hz : D ^^^ 2 ^ k = 0 → mnV M0 (fun p => (D ^^^ 2 ^ k).testBit p) (cbV t s2 S D k) (jnN t) = M0 := fun z => by
              have : ∀ n, mnV M0 (fun p => (D ^^^ 2 ^ k).testBit p) (cbV t s2 S D k) n = M0 := by
                intro n
                induction n with
                | zero => rfl
                | succ n ih =>
                  show (if (D ^^^ 2 ^ k).testBit n = true then _ else mnV M0 (fun p => (D ^^^ 2 ^ k).testBit p) (cbV t s2 S D k) n) = M0
                  rw [if_neg (fun w => by rw [z, Nat.zero_testBit] at w; cases w)]
                  exact ih
              exact this _
            have hvals : ∀ p, p < jnN t → (D ^^^ 2 ^ k).testBit p = true → _ := fun p hp hbp => cb_val (s := s2) (S := S) hJ h7 hp hk bt (by
              have := (i2 (D ^^^ 2 ^ k) hx hsub' p hp hbp).2.2
              rw [c2 (7 * (D ^^^ 2 ^ k) + p) (by omega)]
              exact this)
            have hpn : pcN D (jnN t) ≤ jnN t := ctN_le _ _
            have hbdv : -(80000000 + 4000000 * (pcN D (jnN t) : Int)) ≤ (mnV M0 (fun p => (D ^^^ 2 ^ k).testBit p) (cbV t s2 S D k) (jnN t)).toInt ∧ (mnV M0 (fun p => (D ^^^ 2 ^ k).testBit p) (cbV t s2 S D k) (jnN t)).toInt ≤ 80000000 + 4000000 * (pcN D (jnN t) : Int) := by
              by_cases z : D ^^^ 2 ^ k = 0
              · rw [hz z, m1 z]
                have := cb_first (S := S) hJ h7 hj hk
                omega
              · have em : (1000000000 : Int32).toInt = 1000000000 := rfl
                rw [m2 z]
                obtain ⟨-, -, y3⟩ := mn_ok (M0 := 1000000000) (cd := fun p => (D ^^^ 2 ^ k).testBit p) (vl := cbV t s2 S D k) (jnN t) (fun p hp hb => by have := hvals p hp hb; omega)
                obtain ⟨p, p1, p2, p3⟩ := y3 (has_bit (xor_lt hDn hk) z)
                rw [p3]
                exact (hvals p p1 p2).2
            have hcb : ∀ v, cbP t (wr s2 224 (7 * D + k) v) j S D k ↔ ((D ^^^ 2 ^ k = 0 → v = szV t j k * swV t (wgV t) S (jnN t)) ∧ (D ^^^ 2 ^ k ≠ 0 → v = mnV 1000000000 (fun p => (D ^^^ 2 ^ k).testBit p) (cbV t s2 S D k) (jnN t)) ∧ -(80000000 + 4000000 * (pcN D (jnN t) : Int)) ≤ v.toInt ∧ v.toInt ≤ 80000000 + 4000000 * (pcN D (jnN t) : Int)) := fun v => by
              unfold cbP
              rw [cb_cg (wr s2 224 (7 * D + k) v) s2 D k (fun p hp _ => by rw [wr_at, upd_ne (by omega)]) _ (Nat.le_refl _), wr_at, upd_at]
            generalize hv : mnV M0 (fun p => (D ^^^ 2 ^ k).testBit p) (cbV t s2 S D k) (jnN t) = v at *
            refine ⟨(wr s2 224 (7 * D + k) v, if D = S then jMin b2 v else b2), rfl, Ch_w rfl rfl c1, fun x hx' => ?_, fun i hi hbi => ?_, ?_⟩
            · show wr s2 224 (7 * D + k) v 224 x = _
              rw [wr_at, upd_ne (by omega)]; exact c2 x hx'
            · by_cases e : i = k
              · subst e
                refine (hcb v).mpr ⟨fun z => by rw [hz z]; exact m1 z, fun z => by rw [← hv, m2 z], hbdv⟩
              · have hP := c3 i (by omega) hbi
                have hxi := xor_dn ⟨D, by omega⟩ ⟨i, by omega⟩ hbi
                have hxi : D ^^^ 2 ^ i < D := hxi
                show cbP t (wr s2 224 (7 * D + k) v) j S D i
                unfold cbP
                rw [cb_cg (wr s2 224 (7 * D + k) v) s2 D i (fun p hp _ => by rw [wr_at, upd_ne (by omega)]) _ (Nat.le_refl _), wr_at, upd_ne (by omega)]
                exact hP
            · show (if D = S then jMin b2 v else b2) = _
              by_cases e : D = S
              · rw [if_pos e, if_pos e]
                rw [if_pos e] at c4
                show jMin b2 v = if S.testBit k = true then jMin (mnV 1000000000 (fun k => S.testBit k) (fun k' => wr s2 224 (7 * D + k) v 224 (7 * S + k')) k) (wr s2 224 (7 * D + k) v 224 (7 * S + k)) else _
                rw [if_pos (by rw [← e]; exact bt), c4]
                have e1 : wr s2 224 (7 * D + k) v 224 (7 * S + k) = v := by rw [← e, wr_at, upd_at]
                have e2 : ∀ n, n ≤ k → mnV 1000000000 (fun k => S.testBit k) (fun k' => wr s2 224 (7 * D + k) v 224 (7 * S + k')) n = mnV 1000000000 (fun k => S.testBit k) (fun k' => s2 224 (7 * S + k')) n := by
                  intro n
                  induction n with
                  | zero => intro _; rfl
                  | succ n ih =>
                    intro hn
                    show (if S.testBit n = true then jMin (mnV 1000000000 (fun k => S.testBit k) (fun k' => wr s2 224 (7 * D + k) v 224 (7 * S + k')) n) (wr s2 224 (7 * D + k) v 224 (7 * S + n)) else mnV 1000000000 (fun k => S.testBit k) (fun k' => wr s2 224 (7 * D + k) v 224 (7 * S + k')) n) = (if S.testBit n = true then jMin (mnV 1000000000 (fun k => S.testBit k) (fun k' => s2 224 (7 * S + k')) n) (s2 224 (7 * S + n)) else mnV 1000000000 (fun k => S.testBit k) (fun k' => s2 224 (7 * S + k')) n)
                    rw [ih (by omega), wr_at, upd_ne (by omega)]
                rw [e1, e2 k (Nat.le_refl _)]
              · rw [if_neg e, if_neg e]
                rw [if_neg e] at c4
                exact c4
          rw [if_pos ((bis1 (by omega) (by omega)).mpr bt), bxor (by omega) (by omega)]
          by_cases z : D ^^^ 2 ^ k = 0
          · obtain ⟨⟨z1, z2⟩, -⟩ := J_Z hJ j (by omega)
            have := go (szV t j k * swV t (wgV t) S (jnN t)) (fun _ => rfl) (fun w => absurd z w)
            rw [if_pos (show nn (D ^^^ 2 ^ k) = 0 by rw [z]; rfl), bgMK hJ hK2 (by omega), bI_rI, nn_b (i := j) (n := 3) (by omega) (by decide), nn_b (i := k) (n := 8) (by omega) (by decide)]
            simp only [gd_t]
            rw [nn_n (by omega), nn_n (by omega), K_at hK2 216 rfl, K_at hK2 217 rfl, q1, q2, v2 k hk, hrMK hJ hK2 b1 z1 z2, bI_rI, K_m hK2 11 rfl, e11]
            exact this
          · rw [if_neg (show ¬ nn (D ^^^ 2 ^ k) = 0 from fun w => z ((nn_eq (j := 0) (by omega) (by omega)).mp w))]
            exact go 1000000000 (fun w => absurd w z) (fun _ => rfl)
        · refine ⟨(s2, b2), ?_, c1, c2, fun i hi hbi => ?_, ?_⟩
          · rw [if_neg (fun z => bt ((bis1 (by omega) (by omega)).mp z)), nn_s]
          · have : i ≠ k := fun e => bt (by rw [← e]; exact hbi)
            exact c3 i (by omega) hbi
          · show b2 = _
            rw [c4]
            by_cases e : D = S
            · rw [if_pos e, if_pos e]
              show _ = if S.testBit k = true then _ else mnV 1000000000 (fun k => S.testBit k) (fun k => s2 224 (7 * S + k)) k
              rw [if_neg (by rw [← e]; exact bt)]
            · rw [if_neg e, if_neg e]) (by omega) ⟨i1, fun _ _ => rfl, fun i hi => by omega, by
            show b = if D = S then 1000000000 else 1000000000
            rw [i3]; split <;> rfl⟩
      have f1 : mo_costBy_113 s1 (nn j) (nn S) (swV t (wgV t) S (jnN t)) b (nn D) 0 = mo_costBy_113 s2 (nn j) (nn S) (swV t (wgV t) S (jnN t)) b2 (nn D) (nn (jnN t)) := f1
      have f2 : Ch [224] [] s s2 := f2
      have f3 : ∀ x, (x < 7 * D ∨ 7 * D + 7 ≤ x) → s2 224 x = s1 224 x := f3
      have f5 : b2 = _ := f5
      refine ⟨(s2, b2), ?_, f2, fun E hE hsE k hk hbE => ?_, ?_⟩
      · rw [f1, mo_costBy_113_eq, (jm_ch hw f2).2.1, if_pos (yle (Nat.le_refl _) (by omega)), nn_s]
      · by_cases e : E = D
        · rw [e] at hbE ⊢; exact f4 k hk hbE
        · have hP := i2 E (by omega) hsE k hk hbE
          have hxE := xor_dn ⟨E, by omega⟩ ⟨k, by omega⟩ hbE
          have hxE : E ^^^ 2 ^ k < E := hxE
          show cbP t s2 j S E k
          unfold cbP
          rw [cb_cg s2 s1 E k (fun p hp _ => f3 _ (by omega)) _ (Nat.le_refl _), f3 _ (by omega)]
          exact hP
      · show b2 = _
        rw [f5]
        by_cases e : D = S
        · rw [if_pos e, if_neg (by omega)]
        · rw [if_neg e, if_pos (by omega)]
    · have hno : ¬ nn D ||| nn S = nn S := fun w => by
        rw [nn_or] at w
        have hlt : D ||| S < 2 ^ jnN t := Nat.or_lt_two_pow hDn hS
        exact hs (or_sub.mp ((nn_eq (by omega) (by omega)).mp w))
      refine ⟨(s1, b), ?_, i1, fun E hE hsE k hk hbE => ?_, ?_⟩
      · rw [mo_costBy_113_eq, w1, if_neg (show ¬ nn (jnN t) ≤ 0 from nle (j := 0) hn0 (by omega)), if_neg hno, nn_s]
      · have : E ≠ D := fun e => hs (by rw [← e]; exact hsE)
        exact i2 E (by omega) hsE k hk hbE
      · show b = _
        have : D ≠ S := fun e => hs (by rw [e]; exact fun _ h => h)
        rw [if_pos (by omega), i3]) (by omega) ⟨Ch_rf, (fun E hE hsE k hk hbE => by
        have h0 : E = 0 := by omega
        rw [h0, Nat.zero_testBit] at hbE
        cases hbE), (by
        show (1000000000 : Int32) = _
        rw [if_pos (by omega)])⟩
  have e1 : mo_costBy_104 s (nn j) (nn S) (swV t (wgV t) S (jnN t)) 1000000000 1 = mo_costBy_104 s1 (nn j) (nn S) (swV t (wgV t) S (jnN t)) b (nn (S + 1)) := e1
  have e4 : b = _ := e4
  rw [if_neg (by omega)] at e4
  refine ⟨s1, ?_, e2, e3⟩
  rw [e1, mo_costBy_104_eq, if_pos (ylt (by omega) (by omega)), e4]
end CBY
