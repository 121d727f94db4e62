/-! what a set of jobs costs a ship -/
def rqS (t : mSt) (D : Nat) : Nat → Int
  | 0 => 0
  | k + 1 => rqS t D k + (if D.testBit k = true then (rlV t (jI t k)).toInt else 0)
/-- may a ship do all of a set -/
def fsB (t : mSt) (j D : Nat) : Bool := !exB (fun k => D.testBit k && !lvB t j (jI t k)) (jnN t) && decide (rqS t D (jnN t) ≤ (t 132 j).toInt)
def szV (t : mSt) (j k : Nat) : Int32 := (bgV t j - t 35 1) + hrV t (jI t k) (t 130 j) (t 131 j)
noncomputable def foV (t s : mSt) (j D k : Nat) : Int32 := swV t (wgV t) D (jnN t) * szV t j k + s (148 + k) (D ^^^ 2 ^ k)
section SHP
variable {t s : mSt}
theorem rq_mono (hJ : J t) (D : Nat) {a b : Nat} (h : a ≤ b) (hb : b ≤ jnN t) : rqS t D a ≤ rqS t D b ∧ rqS t D b ≤ rqS t D a + 201 * (b - a) := by
  obtain ⟨k, rfl⟩ : ∃ k, b = a + k := ⟨b - a, by omega⟩
  induction k with
  | zero => rw [Nat.add_zero]; omega
  | succ k ih =>
    have := ih (by omega) (by omega)
    have hr := rl_i (HB_of hJ (jI_lt (show a + k < jnN t by omega)))
    have e : rqS t D (a + (k + 1)) = rqS t D (a + k) + (if D.testBit (a + k) = true then (rlV t (jI t (a + k))).toInt else 0) := rfl
    rw [e]
    split <;> omega
theorem st_bd (hJ : J t) {j k : Nat} (hj : j < nsh t) (hk : k < jnN t) : 1 ≤ (szV t j k).toInt ∧ (szV t j k).toInt ≤ 9060 := by
  obtain ⟨-, h3, ei⟩ := nsh_ok hJ
  obtain ⟨⟨z1, z2⟩, z3, z4, z5, z6⟩ := J_Z hJ j (by omega)
  have bh := (J_B hJ).1.2
  have hh := hr_bd (HB_of hJ (jI_lt hk)) z1 z2
  have m : (bgV t j).toInt = max (t 35 1).toInt (t 134 j).toInt := jMax_i
  obtain ⟨a1, a2⟩ := hh
  obtain ⟨b1, b2⟩ := bh
  obtain ⟨c1, c2⟩ := z3
  have e1 := i32_sub (a := bgV t j) (b := t 35 1) (by omega) (by omega)
  unfold szV
  rw [i32_add (by omega) (by omega)]
  omega
theorem fo_val (hJ : J t) (h7 : jnN t ≤ 7) {j D k : Nat} (hj : j < nsh t) (hk : k < jnN t) (hP : -(2000000 * (pcN (D ^^^ 2 ^ k) (jnN t) : Int)) ≤ (s (148 + k) (D ^^^ 2 ^ k)).toInt ∧ (s (148 + k) (D ^^^ 2 ^ k)).toInt ≤ 2000000 * (pcN (D ^^^ 2 ^ k) (jnN t) : Int)) : (foV t s j D k).toInt = wS (fun k => (wgV t k).toInt) D (jnN t) * (szV t j k).toInt + (s (148 + k) (D ^^^ 2 ^ k)).toInt ∧ -100000000 ≤ (foV t s j D k).toInt ∧ (foV t s j D k).toInt ≤ 100000000 := by
  obtain ⟨a1, a2, a3⟩ := sw_i hJ D (jnN t) h7
  obtain ⟨g1, g2⟩ := st_bd hJ hj hk
  have hpn : pcN (D ^^^ 2 ^ k) (jnN t) ≤ jnN t := ctN_le _ _
  have m := mul_bd (a := (swV t (wgV t) D (jnN t)).toInt) (b := (szV t j k).toInt) (A := 8316) (M := 9060) (by omega) (by omega) (by omega) g2 (by omega)
  have e1 := i32_mul (a := swV t (wgV t) D (jnN t)) (b := szV t j k) (by omega) (by omega)
  unfold foV
  rw [i32_add (by omega) (by omega), e1, ← a1]
  omega
theorem costForC (hJ : J t) (h7 : jnN t ≤ 7) (hw : jwP t s) (hT : tbP t (2 ^ jnN t) s) {j D : Nat} (hj : j < nsh t) (hD : D < 2 ^ jnN t) : me_costFor s (nn j) (nn D) = rI (if fsB t j D = true then (if D = 0 then 0 else mnV 2147483647 (fun k => D.testBit k) (foV t s j D) (jnN t)) else 2147483647) s := by
  obtain ⟨-, h3, ei⟩ := nsh_ok hJ
  obtain ⟨-, h8, -⟩ := nbr_ok hJ
  obtain ⟨hK, w1, w2, w3⟩ := hw
  obtain ⟨t1, t2, t3⟩ := hT
  have hR7 : 2 ^ jnN t ≤ 2 ^ 7 := Nat.pow_le_pow_right (by omega) h7
  have j3 : j < 3 := by omega
  obtain ⟨-, z3, -⟩ := J_Z hJ j (by omega)
  have go : ∀ M0, me_costFor_35 s (nn j) (nn D) M0 0 (bgV t j - t 35 1) 0 = rI (if fsB t j D = true then mnV M0 (fun k => D.testBit k) (foV t s j D) (jnN t) else 2147483647) s := fun M0 => by
    have key := loopE (σ := Int32 × Int32) (fun c k => me_costFor_35 s (nn j) (nn D) c.1 c.2 (bgV t j - t 35 1) (nn k)) (jnN t) (fun k c => c.1 = mnV M0 (fun k => D.testBit k) (foV t s j D) k ∧ c.2.toInt = rqS t D k ∧ (∀ l, l < k → (D.testBit l && !lvB t j (jI t l)) = false) ∧ rqS t D k ≤ (t 132 j).toInt) (fun o => o = rI 2147483647 s ∧ fsB t j D = false) (i0 := 0) (s0 := (M0, 0)) (fun k c hk hI => by
      obtain ⟨c, d⟩ := c
      show (∃ c' : Int32 × Int32, me_costFor_35 s (nn j) (nn D) c d (bgV t j - t 35 1) (nn k) = me_costFor_35 s (nn j) (nn D) c'.1 c'.2 (bgV t j - t 35 1) (nn (k + 1)) ∧ _) ∨ (me_costFor_35 s (nn j) (nn D) c d (bgV t j - t 35 1) (nn k) = rI 2147483647 s ∧ _)
      obtain ⟨i1, i2, i3, i4⟩ := hI
      have i1 : c = mnV M0 (fun k => D.testBit k) (foV t s j D) k := i1
      have i2 : d.toInt = rqS t D k := i2
      have eq : rqS t D (k + 1) = rqS t D k + (if D.testBit k = true then (rlV t (jI t k)).toInt else 0) := rfl
      have hm0 := rq_mono hJ D (Nat.zero_le k) (by omega)
      have e0 : rqS t D 0 = 0 := rfl
      rw [me_costFor_35_eq s (nn j) (nn D) c d _ (nn k), w1, if_neg (nle hk (by omega)), nn_s]
      by_cases b : D.testBit k = true
      · have hb := jI_lt hk
        have hr := rl_i (HB_of hJ hb)
        rw [if_pos b] at eq
        rw [if_neg (fun z => by rw [(bis0 (by omega) (by omega)).mp z] at b; cases b), nn_b (i := k) (n := 7) (by omega) (by decide), nn_b (i := j) (n := 3) j3 (by decide), nn_n (by omega)]
        simp only [gd_t]
        rw [w2 k hk, rlCK hJ hK hb, bI_rI, w2 k hk, lvCK hJ hK hb j3, bI_rI, bi_if, nn_n (by omega), K_at hK 132 rfl]
        by_cases lv : lvB t j (jI t k) = true
        · have ed : (d + rlV t (jI t k)).toInt = d.toInt + (rlV t (jI t k)).toInt := i32_add (by omega) (by omega)
          rw [if_pos lv]
          by_cases rr : d + rlV t (jI t k) ≤ t 132 j
          · left
            have hx := xor_dn ⟨D, by omega⟩ ⟨k, by omega⟩ b
            have hx : D ^^^ 2 ^ k < D := hx
            rw [if_pos rr, w2 k hk, K_at hK 130 rfl, K_at hK 131 rfl, hrCK hJ hK hb, bI_rI, bxor (by omega) (by omega), nn_b (i := D) (n := 128) (by omega) (by decide), nn_n (by omega), blt_t (show k < 7 by omega), nn_b (i := D ^^^ 2 ^ k) (n := 128) (by omega) (by decide), nn_n (by omega), t2 D hD]
            simp only [gd_t]
            refine ⟨(jMin c (foV t s j D k), d + rlV t (jI t k)), rfl, ?_, ?_, fun l hl => ?_, ?_⟩
            · show jMin c (foV t s j D k) = if D.testBit k = true then jMin (mnV M0 (fun k => D.testBit k) (foV t s j D) k) (foV t s j D k) else _
              rw [if_pos b, i1]
            · show (d + rlV t (jI t k)).toInt = _
              omega
            · by_cases e : l = k
              · rw [e, b, lv]; rfl
              · exact i3 l (by omega)
            · rw [Int32.le_iff_toInt_le] at rr
              omega
          · right
            rw [if_neg rr]
            refine ⟨rfl, ?_⟩
            rw [Int32.le_iff_toInt_le] at rr
            have hm := (rq_mono hJ D (show k + 1 ≤ jnN t by omega) (Nat.le_refl _)).1
            unfold fsB
            rw [decide_eq_false (by omega), Bool.and_false]
        · right
          rw [if_neg lv]
          refine ⟨rfl, ?_⟩
          unfold fsB
          have : exB (fun k => D.testBit k && !lvB t j (jI t k)) (jnN t) = true := exB_iff.mpr ⟨k, hk, by
            have : lvB t j (jI t k) = false := by cases e : lvB t j (jI t k); rfl; exact absurd e lv
            rw [b, this]; rfl⟩
          rw [this, Bool.not_true, Bool.false_and]
      · have b' : D.testBit k = false := by cases e : D.testBit k; rfl; exact absurd e b
        left
        rw [if_neg b] at eq
        rw [if_pos ((bis0 (by omega) (by omega)).mpr b')]
        refine ⟨(c, d), rfl, ?_, ?_, fun l hl => ?_, ?_⟩
        · show c = if D.testBit k = true then _ else mnV M0 (fun k => D.testBit k) (foV t s j D) k
          rw [if_neg b, i1]
        · show d.toInt = _
          omega
        · by_cases e : l = k
          · rw [e, b']; rfl
          · exact i3 l (by omega)
        · omega) (Nat.zero_le _) ⟨rfl, rfl, fun l hl => by omega, z3.1⟩
    rcases key with ⟨⟨c, d⟩, f1, f2, f3, f4, f5⟩ | ⟨f1, f2⟩
    · have f1 : me_costFor_35 s (nn j) (nn D) M0 0 (bgV t j - t 35 1) 0 = me_costFor_35 s (nn j) (nn D) c d (bgV t j - t 35 1) (nn (jnN t)) := f1
      have f2 : c = mnV M0 (fun k => D.testBit k) (foV t s j D) (jnN t) := f2
      have : fsB t j D = true := by
        unfold fsB
        rw [exB_f f4, decide_eq_true f5]; rfl
      rw [f1, me_costFor_35_eq, w1, if_pos (yle (Nat.le_refl _) (by omega)), if_pos this, f2]
    · have f1 : me_costFor_35 s (nn j) (nn D) M0 0 (bgV t j - t 35 1) 0 = rI 2147483647 s := f1
      rw [f1, f2, if_neg (by decide)]
  rw [me_costFor_eq, me_costFor_10_eq, me_costFor_10_eq, bgCK hK j3, bI_rI, K_at hK 35 rfl, go, bI_rI, K_at hK 35 rfl, go]
  by_cases z : D = 0
  · have : ∀ n, mnV 0 (fun k => D.testBit k) (foV t s j D) n = 0 := by
      intro n
      induction n with
      | zero => rfl
      | succ n ih =>
        show (if D.testBit n = true then _ else mnV 0 (fun k => D.testBit k) (foV t s j D) n) = 0
        rw [z, Nat.zero_testBit, if_neg (by decide), ← z]
        exact ih
    rw [if_pos (show nn D = 0 by rw [z]; rfl), this, if_pos z]
  · rw [if_neg (show ¬ nn D = 0 from fun w => z ((nn_eq (j := 0) (by omega) (by omega)).mp w)), if_neg z]
/-- the least cost of a set for a ship: a number that both sides reach -/
def opI (t : mSt) (j D : Nat) (V : Int) : Prop := D ≠ 0 → ∃ B : Nat → Nat → Int, (∀ k, k < jnN t → B k 0 = 0) ∧ (∀ k R, k < jnN t → R < 2 ^ jnN t → R ≠ 0 → (∀ l, l < jnN t → R.testBit l = true → B k R ≤ wS (fun k => (wgV t k).toInt) R (jnN t) * (lgV t k l).toInt + B l (R ^^^ 2 ^ l)) ∧ ∃ l, l < jnN t ∧ R.testBit l = true ∧ B k R = wS (fun k => (wgV t k).toInt) R (jnN t) * (lgV t k l).toInt + B l (R ^^^ 2 ^ l)) ∧ ((∀ k, k < jnN t → D.testBit k = true → V ≤ wS (fun k => (wgV t k).toInt) D (jnN t) * (szV t j k).toInt + B k (D ^^^ 2 ^ k)) ∧ ∃ k, k < jnN t ∧ D.testBit k = true ∧ V = wS (fun k => (wgV t k).toInt) D (jnN t) * (szV t j k).toInt + B k (D ^^^ 2 ^ k))
end SHP
