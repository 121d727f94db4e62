theorem lightBoth {s : mSt} (hN : JN s) (er2 : s 192 = s 2) {x y : Int32} (x1 : 0 ≤ x.toInt) (x2 : x.toInt < (s 25 5).toInt) (hy : bd y 0 1000) : ∃ v, ne_lightIn s x y = rI v s ∧ mo_lightIn s x y = rI v s := by
  obtain ⟨⟨⟨en, bn⟩, ⟨el, bl⟩, ⟨ey, by1⟩⟩, ⟨p1, p2, p3, p4, p5, p6, p7, p8⟩, hX, hLn⟩ := id hN
  have hb := bl.2
  have hi : inb x 12 = true := inb_of x1 (by omega)
  obtain ⟨-, -, -, -, l7, -⟩ := hLn x.toNatClampNeg (show ((x.toInt.toNat : Nat) : Int) < _ by omega)
  refine ⟨_, by rw [ne_lightIn_eq, hi, gd_t, gd_t, gd_t], ?_⟩
  rw [mo_lightIn_eq, hi, gd_t, p8]
  have key : ∀ t, mo_lightIn_22 s x t = rI ((((s 2 0) - ((s 2 2) * (s 34 x.toNatClampNeg))) - ((s 2 3) * (s 32 x.toNatClampNeg))) - ((s 2 4) * t)) s := fun t => by
    rw [mo_lightIn_22_eq, lenM hN x1 x2, bI_rI, hi, gd_t, er2, p7]
  obtain ⟨y1, y2⟩ := hy
  obtain ⟨z1, z2⟩ := l7
  have es : (y - s 33 x.toNatClampNeg).toInt = y.toInt - (s 33 x.toNatClampNeg).toInt := i32_sub (by omega) (by omega)
  have e0 : (0 : Int32).toInt = 0 := rfl
  by_cases h3 : y ≤ s 33 x.toNatClampNeg
  · rw [if_pos h3, key]
    have : jMax 0 (y - s 33 x.toNatClampNeg) = 0 := by
      unfold jMax
      rw [if_neg]
      rw [Int32.lt_iff_toInt_lt, es, e0]
      rw [Int32.le_iff_toInt_le] at h3
      omega
    rw [this]
  · rw [if_neg h3, gd_t, key]
    have : jMax 0 (y - s 33 x.toNatClampNeg) = y - s 33 x.toNatClampNeg := by
      unfold jMax
      rw [if_pos]
      rw [Int32.lt_iff_toInt_lt, es, e0]
      rw [Int32.le_iff_toInt_le] at h3
      omega
    rw [this]
theorem until_go {s : mSt} (hN : JN s) (er2 : s 192 = s 2) {x : Int32} (x1 : 0 ≤ x.toInt) (x2 : x.toInt < (s 25 5).toInt) : ∀ (n : Nat) (y : Int32), 0 ≤ y.toInt → y.toInt + n = 100 → ∃ v, LL_until_15 s x y = rI v s ∧ mo_until_12 s x y = rI v s := by
  have e99 : (99 : Int32).toInt = 99 := rfl
  have e100 : (100 : Int32).toInt = 100 := rfl
  have e1 : (1 : Int32).toInt = 1 := rfl
  intro n
  induction n with
  | zero =>
    intro y y1 y2
    have g1 : (99 : Int32) < y := by rw [Int32.lt_iff_toInt_lt]; omega
    have g2 : (100 : Int32) ≤ y := by rw [Int32.le_iff_toInt_le]; omega
    exact ⟨-4, by rw [LL_until_15_eq, if_pos g1], by rw [mo_until_12_eq, if_pos g2, mo_until_39_eq, if_pos g2]⟩
  | succ n ih =>
    intro y y1 y2
    have g1 : ¬ (99 : Int32) < y := by rw [Int32.lt_iff_toInt_lt]; omega
    have g2 : ¬ (100 : Int32) ≤ y := by rw [Int32.le_iff_toInt_le]; omega
    obtain ⟨v, k1, k2⟩ := lightBoth hN er2 x1 x2 (y := y) ⟨y1, by omega⟩
    by_cases h : s 2 1 ≤ v
    · have h' : ¬ v < s 2 1 := by rw [Int32.lt_iff_toInt_lt]; rw [Int32.le_iff_toInt_le] at h; omega
      have ea : (y + 1).toInt = y.toInt + 1 := by rw [i32_add (by omega) (by omega), e1]
      obtain ⟨w, j1, j2⟩ := ih (y + 1) (by omega) (by omega)
      exact ⟨w, by rw [LL_until_15_eq, if_neg g1, k1, bI_rI, if_pos h, j1], by rw [mo_until_12_eq, if_neg g2, k2, bI_rI, er2, if_neg h', j2]⟩
    · have h' : v < s 2 1 := by rw [Int32.lt_iff_toInt_lt]; rw [Int32.le_iff_toInt_le] at h; omega
      exact ⟨y, by rw [LL_until_15_eq, if_neg g1, k1, bI_rI, if_neg h], by rw [mo_until_12_eq, if_neg g2, k2, bI_rI, er2, if_pos h', mo_until_39_eq, if_neg g2]⟩
theorem c_until : CS1 J LL_until mo_until := by
  intro s x hJ
  have hN := J_N hJ
  obtain ⟨-, er2, -⟩ := J_R hJ
  have bl := hN.1.2.1.2
  by_cases h1 : wb x 0 (s 25 5 - 1) = 0
  · exact ⟨-1, s, s, by rw [LL_until_eq, hasN hN, bI_rI, if_pos h1], by rw [mo_until_eq, moN hN, bI_rI, if_pos h1], hJ⟩
  · obtain ⟨x1, x2⟩ := wb_lt bl (by decide) h1
    obtain ⟨v, k1, k2⟩ := until_go hN er2 x1 x2 100 0 (by decide) (by decide)
    exact ⟨v, s, s, by rw [LL_until_eq, hasN hN, bI_rI, if_neg h1, k1], by rw [mo_until_eq, moN hN, bI_rI, if_neg h1, k2], hJ⟩
