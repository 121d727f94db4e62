theorem fillC {r : Nat} (hr : r < 4) (v : Int32) : ∀ (n : Nat) (s : mSt) (j : Int32), 0 ≤ j.toInt → j.toInt + n = 40 → ∃ s', ay_fill_r178_5 s r v j 40 = rV s' ∧ (∀ a, ¬ a = 179 + r → s' a = s a) ∧ ∀ k : Nat, s' (179 + r) k = if j.toInt ≤ k ∧ k < 40 then v else s (179 + r) k := by
  have e40 : (40 : Int32).toInt = 40 := rfl
  have e1 : (1 : Int32).toInt = 1 := rfl
  intro n
  induction n with
  | zero =>
    intro s j h1 h2
    refine ⟨s, by rw [ay_fill_r178_5_eq, if_pos (by rw [Int32.le_iff_toInt_le]; omega)], fun _ _ => rfl, fun k => ?_⟩
    rw [if_neg (by omega)]
  | succ n ih =>
    intro s j h1 h2
    have g1 : ¬ (40 : Int32) ≤ j := by rw [Int32.le_iff_toInt_le]; omega
    have ea : (j + 1).toInt = j.toInt + 1 := by rw [i32_add (by omega) (by omega), e1]
    obtain ⟨s', k1, k2, k3⟩ := ih (wr s (179 + r) j.toNatClampNeg v) (j + 1) (by omega) (by omega)
    refine ⟨s', by rw [ay_fill_r178_5_eq, if_neg g1, show Nat.blt r 4 = true from Nat.ble_eq_true_of_le hr, gd_t, inb_of h1 (by omega), gd_t, k1], fun a ha => by rw [k2 a ha, wr_ne _ _ _ ha], fun k => ?_⟩
    rw [k3 k, wr_at, ea]
    have et : j.toNatClampNeg = j.toInt.toNat := rfl
    by_cases c1 : j.toInt + 1 ≤ k ∧ k < 40
    · rw [if_pos c1, if_pos (by omega)]
    · rw [if_neg c1]
      by_cases c2 : k = j.toNatClampNeg
      · rw [c2, upd_at, if_pos (by rw [et]; omega)]
      · rw [upd_ne c2, if_neg (by rw [et] at c2; omega)]
theorem fillM {x : Int32} (x1 : 0 ≤ x.toInt) (x2 : x.toInt ≤ 3) : ∀ (n : Nat) (s : mSt) (j : Int32), 0 ≤ j.toInt → j.toInt + n = 40 → ∃ s', mo_sheet_40 s x j = rI 1 s' ∧ (∀ a, ¬ a = 236 → s' a = s a) ∧ ∀ k : Nat, s' 236 k = if 40 * x.toInt + j.toInt ≤ k ∧ (k : Int) < 40 * x.toInt + 40 then 0 else s 236 k := by
  have e40 : (40 : Int32).toInt = 40 := rfl
  have e1 : (1 : Int32).toInt = 1 := rfl
  have em : (40 * x).toInt = 40 * x.toInt := by
    rw [Int32.toInt_mul, e40, Int.bmod_def]
    split <;> omega
  intro n
  induction n with
  | zero =>
    intro s j h1 h2
    refine ⟨s, by rw [mo_sheet_40_eq, if_pos (by rw [Int32.le_iff_toInt_le]; omega)], fun _ _ => rfl, fun k => ?_⟩
    rw [if_neg (by omega)]
  | succ n ih =>
    intro s j h1 h2
    have g1 : ¬ (40 : Int32) ≤ j := by rw [Int32.le_iff_toInt_le]; omega
    have ea : (j + 1).toInt = j.toInt + 1 := by rw [i32_add (by omega) (by omega), e1]
    have eb : (40 * x + j).toInt = 40 * x.toInt + j.toInt := by rw [i32_add (by omega) (by omega), em]
    obtain ⟨s', k1, k2, k3⟩ := ih (wr s 236 (40 * x + j).toNatClampNeg 0) (j + 1) (by omega) (by omega)
    refine ⟨s', by rw [mo_sheet_40_eq, if_neg g1, inb_of (x := 40 * x + j) (by omega) (by omega), gd_t, k1], fun a ha => by rw [k2 a ha, wr_ne _ _ _ ha], fun k => ?_⟩
    rw [k3 k, wr_at, ea]
    have et : (40 * x + j).toNatClampNeg = (40 * x + j).toInt.toNat := rfl
    by_cases c1 : 40 * x.toInt + (j.toInt + 1) ≤ k ∧ (k : Int) < 40 * x.toInt + 40
    · rw [if_pos c1, if_pos (by omega)]
    · rw [if_neg c1]
      by_cases c2 : k = (40 * x + j).toNatClampNeg
      · rw [c2, upd_at, if_pos (by rw [et]; omega)]
      · rw [upd_ne c2, if_neg (by rw [et] at c2; omega)]
theorem c_sheet : CS3 J LL_sheet mo_sheet := by
  intro s x y z hJ
  have hS := J_S hJ
  obtain ⟨⟨e5, h2⟩, h3⟩ := id hS
  have r0 : (0 : Int32).toInt = 0 := rfl
  have r2 : (2 : Int32).toInt = 2 := rfl
  have r3 : (3 : Int32).toInt = 3 := rfl
  have r40 : (40 : Int32).toInt = 40 := rfl
  by_cases k1 : wb x 0 3 = 0
  · exact ⟨-1, s, s, by rw [LL_sheet_eq, shHas, bI_rI, if_pos k1], by rw [mo_sheet_eq, moSheet, if_pos k1, bI_rI, if_pos rfl], hJ⟩
  have hla : sh_isLane s y = rI (wb y 0 2) s := by
    rw [sh_isLane_eq]
    unfold wb
    split
    · rfl
    · split <;> rfl
  by_cases k2 : wb y 0 2 = 0
  · exact ⟨-1, s, s, by rw [LL_sheet_eq, shHas, bI_rI, if_neg k1, hla, bI_rI, if_pos k2], by rw [mo_sheet_eq, moSheet, if_neg k1, if_pos k2, bI_rI, if_pos rfl], hJ⟩
  by_cases k3 : z ≤ 40
  · by_cases k4 : (0 : Int32) ≤ z
    · have wx := wb_n k1
      have wy := wb_n k2
      have hi : inb x 4 = true := inb_of (by omega) (by omega)
      have hi4 : x.toNatClampNeg < 4 := by show x.toInt.toNat < 4; omega
      have et : (x.toNatClampNeg : Int) = x.toInt := by show ((x.toInt.toNat : Nat) : Int) = _; omega
      obtain ⟨s1, a1, a2, a3⟩ := fillC hi4 0 40 (wr (wr s 176 x.toNatClampNeg y) 177 x.toNatClampNeg z) 0 (by decide) (by decide)
      obtain ⟨s2, b1, b2, b3⟩ := fillM (x := x) (by omega) (by omega) 40 (wr (wr s1 234 x.toNatClampNeg y) 235 x.toNatClampNeg z) 0 (by decide) (by decide)
      refine ⟨1, s1, s2, ?_, ?_, ?_⟩
      · rw [LL_sheet_eq, shHas, bI_rI, if_neg k1, hla, bI_rI, if_neg k2, if_pos k3, if_pos k4, sh_begin_eq, hi, gd_t, gd_t, gd_t, ay_fill_r178_eq, show Nat.blt x.toNatClampNeg 4 = true from Nat.ble_eq_true_of_le hi4, gd_t, a1, bV_rV, bI_rI]
      · rw [mo_sheet_eq, moSheet, if_neg k1, if_neg k2, bI_rI, if_neg (by decide), if_pos k3, if_pos k4, hi, gd_t, gd_t, b1]
      · have c1 : ∀ a, ¬ a = 236 → ¬ a = 234 → ¬ a = 235 → ¬ a = 179 + x.toNatClampNeg → ¬ a = 176 → ¬ a = 177 → s2 a = s a := fun a q1 q2 q3 q4 q5 q6 => by
          rw [b2 a q1, wr_ne _ _ _ q3, wr_ne _ _ _ q2, a2 a q4, wr_ne _ _ _ q6, wr_ne _ _ _ q5]
        have f1 : Fr uS vS s s2 := by
          refine ⟨fun a ha => ?_, fun k hk => ?_⟩
          · have : ∀ a ∈ uS, ¬ a = 236 ∧ ¬ a = 234 ∧ ¬ a = 235 ∧ ¬ a = 179 ∧ ¬ a = 180 ∧ ¬ a = 181 ∧ ¬ a = 182 ∧ ¬ a = 176 ∧ ¬ a = 177 := by decide
            obtain ⟨m1, m2, m3, m4, m5, m6, m7, m8, m9⟩ := this a ha
            exact c1 a m1 m2 m3 (by omega) m8 m9
          · rw [c1 183 (by omega) (by omega) (by omega) (by omega) (by omega) (by omega)]
        have d6 : s2 176 = upd (s 176) x.toNatClampNeg y := by
          rw [b2 176 (by omega), wr_ne _ _ _ (by omega), wr_ne _ _ _ (by omega), a2 176 (by omega), wr_ne _ _ _ (by omega), wr_at]
        have d7 : s2 177 = upd (s 177) x.toNatClampNeg z := by
          rw [b2 177 (by omega), wr_ne _ _ _ (by omega), wr_ne _ _ _ (by omega), a2 177 (by omega), wr_at, wr_ne _ _ _ (by omega)]
        have d4 : s2 234 = upd (s 234) x.toNatClampNeg y := by
          rw [b2 234 (by omega), wr_ne _ _ _ (by omega), wr_at, a2 234 (by omega), wr_ne _ _ _ (by omega), wr_ne _ _ _ (by omega)]
        have d5 : s2 235 = upd (s 235) x.toNatClampNeg z := by
          rw [b2 235 (by omega), wr_at, wr_ne _ _ _ (by omega), a2 235 (by omega), wr_ne _ _ _ (by omega), wr_ne _ _ _ (by omega)]
        have dm : ∀ k : Nat, s2 236 k = if 40 * x.toInt ≤ k ∧ (k : Int) < 40 * x.toInt + 40 then 0 else s 236 k := fun k => by
          rw [b3 k, wr_ne _ _ _ (by omega), wr_ne _ _ _ (by omega), a2 236 (by omega), wr_ne _ _ _ (by omega), wr_ne _ _ _ (by omega), r0, Int.add_zero]
        have dc : ∀ (i k : Nat), i < 4 → k < 40 → s2 (179 + i) k = if i = x.toNatClampNeg then 0 else s (179 + i) k := fun i k hi' hk' => by
          rw [b2 (179 + i) (by omega), wr_ne _ _ _ (by omega), wr_ne _ _ _ (by omega)]
          by_cases ei : i = x.toNatClampNeg
          · subst ei
            rw [a3 k, if_pos ⟨by rw [r0]; omega, hk'⟩, if_pos rfl]
          · rw [if_neg ei, a2 (179 + i) (by omega), wr_ne _ _ _ (by omega), wr_ne _ _ _ (by omega)]
        refine J_butS f1 hJ ⟨⟨by rw [d5, d7, e5], fun i hi' => ?_⟩, fun i k hi' hk' => ?_⟩
        · rw [d6, d7, d4]
          rw [Int32.le_iff_toInt_le] at k3 k4
          by_cases ei : i = x.toNatClampNeg
          · subst ei
            rw [upd_at, upd_at, upd_at]
            exact ⟨⟨by omega, by omega⟩, Or.inr ⟨rfl, ⟨by omega, by omega⟩⟩⟩
          · rw [upd_ne ei, upd_ne ei, upd_ne ei]
            exact h2 i hi'
        · rw [dc i k hi' hk', dm (40 * i + k)]
          by_cases ei : i = x.toNatClampNeg
          · rw [if_pos ei, if_pos (by omega)]
          · rw [if_neg ei, if_neg (by omega)]
            exact h3 i k hi' hk'
    · exact ⟨-14, s, s, by rw [LL_sheet_eq, shHas, bI_rI, if_neg k1, hla, bI_rI, if_neg k2, if_pos k3, if_neg k4], by rw [mo_sheet_eq, moSheet, if_neg k1, if_neg k2, bI_rI, if_neg (by decide), if_pos k3, if_neg k4], hJ⟩
  · exact ⟨-1, s, s, by rw [LL_sheet_eq, shHas, bI_rI, if_neg k1, hla, bI_rI, if_neg k2, if_neg k3], by rw [mo_sheet_eq, moSheet, if_neg k1, if_neg k2, bI_rI, if_neg (by decide), if_neg k3], hJ⟩
