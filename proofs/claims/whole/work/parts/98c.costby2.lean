/-! the cost of a set: the reference gives the class's -/
def moP (t : mSt) (j S : Nat) (v : Int32) : Prop := (fsB t j S = false → v = 1000000000) ∧ (fsB t j S = true → ∀ u, coP t j S u → v = u)
section CB2
variable {t s : mSt}
theorem sb_le {D S : Nat} (h : sbS D S) : D ≤ S := by
  have := or_sub.mpr h
  rw [← this]
  exact Nat.left_le_or
theorem rq_zero (t : mSt) : ∀ n, rqS t 0 n = 0 := by
  intro n
  induction n with
  | zero => rfl
  | succ n ih =>
    show rqS t 0 n + (if (0 : Nat).testBit n = true then (rlV t (jI t n)).toInt else 0) = 0
    rw [ih, Nat.zero_testBit, if_neg (by decide)]; rfl
theorem cb_eq (hJ : J t) (h7 : jnN t ≤ 7) {j S : Nat} (hj : j < nsh t) (hS : S < 2 ^ jnN t) (hS0 : S ≠ 0) (hP : ∀ D, D < S + 1 → sbS D S → ∀ k, k < jnN t → D.testBit k = true → cbP t s j S D k) {u : Int32} (hu : opI t j S u.toInt) : mnV 1000000000 (fun k => S.testBit k) (fun k => s 224 (7 * S + k)) (jnN t) = u := by
  have em : (1000000000 : Int32).toInt = 1000000000 := rfl
  have hPb : ∀ D, sbS D S → ∀ k, k < jnN t → D.testBit k = true → cbP t s j S D k := fun D hs => hP D (by have := sb_le hs; omega) hs
  have hpn : ∀ D, pcN D (jnN t) ≤ jnN t := fun D => ctN_le _ _
  have hrm : ∀ D k, sbS D S → D.testBit k = true → sbS (D ^^^ 2 ^ k) S := fun D k h hk i hi => by
    rw [tb_xor] at hi
    by_cases e : k = i
    · rw [← e]; exact h k hk
    · rw [decide_eq_false e, Bool.xor_false] at hi; exact h i hi
  have hlt : ∀ D, sbS D S → D < 2 ^ jnN t := fun D h => by have := sb_le h; omega
  obtain ⟨B, b1, b2, b3⟩ := hu hS0
  have hvb : ∀ k, k < jnN t → S.testBit k = true → (s 224 (7 * S + k)).toInt < (1000000000 : Int32).toInt := fun k hk hb => by
    have := (hPb S (fun _ h => h) k hk hb).2.2
    have := hpn S
    omega
  obtain ⟨-, m2, m3⟩ := mn_ok (M0 := 1000000000) (cd := fun k => S.testBit k) (vl := fun k => s 224 (7 * S + k)) (jnN t) hvb
  have key := opt_eq (n := jnN t) (S := S) (w := fun k => (wgV t k).toInt) (leg := fun p k => (lgV t p k).toInt) (st := fun k => (szV t j k).toInt) (B := B) (C := fun D k => (s 224 (7 * D + k)).toInt) (V := u.toInt) (best := (mnV 1000000000 (fun k => S.testBit k) (fun k => s 224 (7 * S + k)) (jnN t)).toInt) hS b1 b2 (fun k hk hb => by
    have hsb : sbS (2 ^ k) S := fun i hi => by
      rw [Nat.testBit_two_pow] at hi
      rw [← of_decide_eq_true hi]; exact hb
    have := (hPb (2 ^ k) hsb k hk (by rw [Nat.testBit_two_pow, decide_eq_true rfl])).1 (Nat.xor_self _)
    show (s 224 (7 * 2 ^ k + k)).toInt = (szV t j k).toInt * _
    rw [this]
    exact (cb_first hJ h7 hj hk).1) (fun D k hs hk hb hx => by
    have h2 := (hPb D hs k hk hb).2.1 hx
    have hv : ∀ p, p < jnN t → (D ^^^ 2 ^ k).testBit p = true → _ := fun p hp hbp => cb_val (s := s) (S := S) hJ h7 hp hk hb (hPb (D ^^^ 2 ^ k) (hrm D k hs hb) p hp hbp).2.2
    have hpD := hpn D
    obtain ⟨-, y2, y3⟩ := mn_ok (M0 := 1000000000) (cd := fun p => (D ^^^ 2 ^ k).testBit p) (vl := cbV t s S D k) (jnN t) (fun p hp hb => by have := hv p hp hb; omega)
    rw [h2]
    refine ⟨fun p hp hbp => ?_, ?_⟩
    · have := y2 p hp hbp
      rw [(hv p hp hbp).1] at this
      exact this
    · obtain ⟨p, p1, p2, p3⟩ := y3 (has_bit (xor_lt (hlt D hs) hk) hx)
      exact ⟨p, p1, p2, by rw [p3, (hv p p1 p2).1]⟩) b3 ⟨m2, by
    obtain ⟨k, k1, k2, k3⟩ := m3 (has_bit hS hS0)
    exact ⟨k, k1, k2, by rw [k3]⟩⟩
  exact (Int32.toInt_inj.mp key).symm
theorem costByM (hJ : J t) (h7 : jnN t ≤ 7) (hw : jmP t s) {j S : Nat} (hj : j < nsh t) (hS : S < 2 ^ jnN t) : ∃ v s', mo_costBy s (nn j) (nn S) = rI v s' ∧ Ch [224] [] s s' ∧ moP t j S v := by
  obtain ⟨-, h3, ei⟩ := nsh_ok hJ
  obtain ⟨hK, w1, w2, w3⟩ := id hw
  have hR7 : 2 ^ jnN t ≤ 2 ^ 7 := Nat.pow_le_pow_right (by omega) h7
  obtain ⟨-, ⟨q1, q2, q3, q4, q5⟩⟩ := id (J_F hJ)
  obtain ⟨-, z3, -⟩ := J_Z hJ j (by omega)
  have key := loopE (σ := Int32) (fun d k => mo_costBy_5 s (nn j) (nn S) d (nn k)) (jnN t) (fun k d => d.toInt = rqS t S k ∧ (∀ l, l < k → (S.testBit l && !lvB t j (jI t l)) = false)) (fun o => o = rI 1000000000 s ∧ fsB t j S = false) (i0 := 0) (s0 := 0) (fun k d hk hI => by
    show (∃ d', mo_costBy_5 s (nn j) (nn S) d (nn k) = mo_costBy_5 s (nn j) (nn S) d' (nn (k + 1)) ∧ _) ∨ (mo_costBy_5 s (nn j) (nn S) d (nn k) = rI 1000000000 s ∧ _)
    obtain ⟨i2, i3⟩ := hI
    have eq : rqS t S (k + 1) = rqS t S k + (if S.testBit k = true then (rlV t (jI t k)).toInt else 0) := rfl
    have hm0 := rq_mono hJ S (Nat.zero_le k) (by omega)
    have e0 : rqS t S 0 = 0 := rfl
    rw [mo_costBy_5_eq s (nn j) (nn S) d (nn k), w1, if_neg (nle hk (by omega)), nn_s]
    by_cases b : S.testBit k = true
    · have hb := jI_lt hk
      have hr := rl_i (HB_of hJ hb)
      rw [if_pos b] at eq
      rw [if_pos ((bis1 (by omega) (by omega)).mpr b), nn_b (i := k) (n := 8) (by omega) (by decide), nn_n (by omega)]
      simp only [gd_t]
      rw [w2 k hk, rlMK hJ hK hb, bI_rI, w2 k hk, lvMK hJ hK hb hj, bI_rI, bi_if]
      have ed : (d + rlV t (jI t k)).toInt = d.toInt + (rlV t (jI t k)).toInt := i32_add (by omega) (by omega)
      by_cases lv : lvB t j (jI t k) = true
      · left
        rw [if_pos lv]
        refine ⟨d + rlV t (jI t k), rfl, by omega, fun l hl => ?_⟩
        by_cases e : l = k
        · rw [e, b, lv]; rfl
        · exact i3 l (by omega)
      · right
        rw [if_neg lv]
        refine ⟨rfl, ?_⟩
        unfold fsB
        have : exB (fun k => S.testBit k && !lvB t j (jI t k)) (jnN t) = true := exB_iff.mpr ⟨k, hk, by
          have : lvB t j (jI t k) = false := by cases e : lvB t j (jI t k); rfl; exact absurd e lv
          rw [b, this]; rfl⟩
        rw [this, Bool.not_true, Bool.false_and]
    · have b' : S.testBit k = false := by cases e : S.testBit k; rfl; exact absurd e b
      left
      rw [if_neg b] at eq
      rw [if_neg (fun z => b ((bis1 (by omega) (by omega)).mp z))]
      refine ⟨d, rfl, by omega, fun l hl => ?_⟩
      by_cases e : l = k
      · rw [e, b']; rfl
      · exact i3 l (by omega)) (Nat.zero_le _) ⟨rfl, fun l hl => by omega⟩
  rw [mo_costBy_eq]
  rcases key with ⟨d, f1, f2, f3⟩ | ⟨f1, f2⟩
  · have f1 : mo_costBy_5 s (nn j) (nn S) 0 0 = mo_costBy_5 s (nn j) (nn S) d (nn (jnN t)) := f1
    have hno : exB (fun k => S.testBit k && !lvB t j (jI t k)) (jnN t) = false := by
      cases e : exB (fun k => S.testBit k && !lvB t j (jI t k)) (jnN t) with
      | false => rfl
      | true =>
        obtain ⟨i, h1, h2⟩ := exB_iff.mp e
        rw [f3 i h1] at h2; cases h2
    have hfs : fsB t j S = decide (rqS t S (jnN t) ≤ (t 132 j).toInt) := by unfold fsB; rw [hno, Bool.not_false, Bool.true_and]
    rw [f1, mo_costBy_5_eq, w1, if_pos (yle (Nat.le_refl _) (by omega))]
    by_cases z : S = 0
    · subst z
      have hz : fsB t j 0 = true := by rw [hfs, rq_zero]; exact decide_eq_true z3.1
      refine ⟨0, s, ?_, Ch_rf, fun h => ?_, fun _ u hu => ?_⟩
      · rw [if_pos (show nn 0 = 0 from rfl), if_pos (show nn 0 = 0 from rfl)]
      · rw [hz] at h; cases h
      · exact ((hu.2 hz).1 rfl).symm
    · rw [if_neg (show ¬ nn S = 0 from fun w => z ((nn_eq (j := 0) (by omega) (by omega)).mp w)), nn_b (i := j) (n := 3) (by omega) (by decide), gd_t, nn_n (by omega), K_at hK 218 rfl, q3]
      by_cases c : d ≤ t 132 j
      · have hz : fsB t j S = true := by rw [hfs]; exact decide_eq_true (by rw [Int32.le_iff_toInt_le] at c; omega)
        obtain ⟨s', g1, g2, g3⟩ := costTab hJ h7 hw hj hS z
        refine ⟨mnV 1000000000 (fun k => S.testBit k) (fun k => s' 224 (7 * S + k)) (jnN t), s', ?_, g2, fun h => ?_, fun _ u hu => ?_⟩
        · rw [if_pos c, weightOfM h7 w1 w3 (by omega), bI_rI, g1]
        · rw [hz] at h; cases h
        · exact cb_eq hJ h7 hj hS z g3 (hu.2 hz).2.1
      · have hz : fsB t j S = false := by rw [hfs]; exact decide_eq_false (by rw [Int32.le_iff_toInt_le] at c; omega)
        refine ⟨1000000000, s, ?_, Ch_rf, fun h => rfl, fun h => ?_⟩
        · rw [if_neg c, if_neg (show ¬ nn S = 0 from fun w => z ((nn_eq (j := 0) (by omega) (by omega)).mp w))]
        · rw [hz] at h; cases h
  · have f1 : mo_costBy_5 s (nn j) (nn S) 0 0 = rI 1000000000 s := f1
    exact ⟨1000000000, s, f1, Ch_rf, fun _ => rfl, fun h => by rw [f2] at h; cases h⟩
end CB2
