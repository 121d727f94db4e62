/-! THE CASES, one by one: year, hour, rule, rent, lands, demands, plans, ships -/
theorem mw_0_99 (s : mSt) (x : Int32) : mo_in s x.toInt64 0 99 = rI (wb x 0 99) s := mowc s x 0 99 rfl rfl
theorem mw_0_1 (s : mSt) (x : Int32) : mo_in s x.toInt64 0 1 = rI (wb x 0 1) s := mowc s x 0 1 rfl rfl
theorem mw_1_8 (s : mSt) (x : Int32) : mo_in s x.toInt64 1 8 = rI (wb x 1 8) s := mowc s x 1 8 rfl rfl
theorem mw_0_20 (s : mSt) (x : Int32) : mo_in s x.toInt64 0 20 = rI (wb x 0 20) s := mowc s x 0 20 rfl rfl
theorem mw_1_99 (s : mSt) (x : Int32) : mo_in s x.toInt64 1 99 = rI (wb x 1 99) s := mowc s x 1 99 rfl rfl
theorem mw_1_999 (s : mSt) (x : Int32) : mo_in s x.toInt64 1 999 = rI (wb x 1 999) s := mowc s x 1 999 rfl rfl
theorem mw_0_3 (s : mSt) (x : Int32) : mo_in s x.toInt64 0 3 = rI (wb x 0 3) s := mowc s x 0 3 rfl rfl
theorem mw_0_4 (s : mSt) (x : Int32) : mo_in s x.toInt64 0 4 = rI (wb x 0 4) s := mowc s x 0 4 rfl rfl
theorem mw_0_5 (s : mSt) (x : Int32) : mo_in s x.toInt64 0 5 = rI (wb x 0 5) s := mowc s x 0 5 rfl rfl
theorem mw_0_7 (s : mSt) (x : Int32) : mo_in s x.toInt64 0 7 = rI (wb x 0 7) s := mowc s x 0 7 rfl rfl
theorem mw_0_10 (s : mSt) (x : Int32) : mo_in s x.toInt64 0 10 = rI (wb x 0 10) s := mowc s x 0 10 rfl rfl
theorem mw_0_999 (s : mSt) (x : Int32) : mo_in s x.toInt64 0 999 = rI (wb x 0 999) s := mowc s x 0 999 rfl rfl
theorem mw_0_11 (s : mSt) (x : Int32) : mo_in s x.toInt64 0 11 = rI (wb x 0 11) s := mowc s x 0 11 rfl rfl
theorem mw_1_5 (s : mSt) (x : Int32) : mo_in s x.toInt64 1 5 = rI (wb x 1 5) s := mowc s x 1 5 rfl rfl
theorem mw_0_2 (s : mSt) (x : Int32) : mo_in s x.toInt64 0 2 = rI (wb x 0 2) s := mowc s x 0 2 rfl rfl
theorem mw0 (s : mSt) (x b : Int32) : mo_in s x.toInt64 0 b.toInt64 = rI (wb x 0 b) s := mowc s x 0 b rfl rfl
theorem mwh_99 (s : mSt) (x a : Int32) : mo_in s x.toInt64 a.toInt64 99 = rI (wb x a 99) s := mowc s x a 99 rfl rfl
theorem mwh_999 (s : mSt) (x a : Int32) : mo_in s x.toInt64 a.toInt64 999 = rI (wb x a 999) s := mowc s x a 999 rfl rfl
theorem c_year : CS1 J LL_year mo_year := by
  intro s a hJ
  obtain ⟨⟨⟨hA, hB, ⟨ey, by1⟩⟩, hE, hX, hLn⟩, -⟩ := id hJ
  by_cases h1 : wb a (s 25 1) 99 = 0
  · exact ⟨-1, s, s, by rw [LL_year_eq, LLw, bI_rI, if_pos h1], by rw [mo_year_eq, mwh_99, ey, bI_rI, if_pos h1], hJ⟩
  · have hw := wb_n h1
    have e99 : (99 : Int32).toInt = 99 := rfl
    refine ⟨s 25 1, wr s 25 1 a, wr (wr s 25 1 a) 183 10 a, by rw [LL_year_eq, LLw, bI_rI, if_neg h1], ?_, J_butN (Fr_m rfl rfl (Fr_w rfl rfl Fr_rf)) hJ ⟨⟨hA, hB, ⟨rfl, ?_⟩⟩, hE, hX, hLn⟩ (show JX s from J_X hJ) (show JY s from J_Y hJ)⟩
    · rw [mo_year_eq, mwh_99, show wr s 25 1 a 183 10 = s 25 1 from ey, bI_rI, if_neg h1]
      show rI (s 183 10) _ = _
      rw [ey]
    · show bd a 0 99
      obtain ⟨q1, q2⟩ := by1
      exact ⟨by omega, by omega⟩
theorem c_hour : CS1 J LL_hour mo_hour := by
  intro s a hJ
  obtain ⟨-, ⟨⟨ey, by1⟩, hB⟩, -⟩ := id hJ
  by_cases h1 : wb a (s 35 1) 999 = 0
  · exact ⟨-1, s, s, by rw [LL_hour_eq, LLw, bI_rI, if_pos h1], by rw [mo_hour_eq, mwh_999, ey, bI_rI, if_pos h1], hJ⟩
  · have hw := wb_n h1
    have e99 : (999 : Int32).toInt = 999 := rfl
    refine ⟨s 35 1, wr s 35 1 a, wr (wr s 35 1 a) 183 11 a, by rw [LL_hour_eq, LLw, bI_rI, if_neg h1], ?_, J_butB (Fr_m rfl rfl (Fr_w rfl rfl Fr_rf)) hJ ⟨⟨rfl, ?_⟩, hB⟩ ⟨(J_Y hJ).1, fun j hj => ?_⟩⟩
    · rw [mo_hour_eq, mwh_999, show wr s 35 1 a 183 11 = s 35 1 from ey, bI_rI, if_neg h1]
      show rI (s 183 11) _ = _
      rw [ey]
    · show bd a 0 999
      obtain ⟨q1, q2⟩ := by1
      exact ⟨by omega, by omega⟩
    · obtain ⟨⟨k1, k2, k3⟩, k4⟩ := (J_Y hJ).2 j hj
      refine ⟨⟨k1, ?_, k3⟩, k4⟩
      show bd (s 37 j) 0 a.toInt
      exact ⟨k2.1, by have := k2.2; omega⟩
theorem c_rule : CS1 J LL_rule mo_rule := by
  intro s a hJ
  obtain ⟨⟨er, br⟩, e2, -⟩ := J_R hJ
  by_cases h8 : a = 8
  · refine ⟨s 1 2, s, s, by rw [LL_rule_eq, if_pos h8], ?_, hJ⟩
    have h1 : wb a 0 7 = 0 := by rw [h8]; decide
    rw [mo_rule_eq, mw_0_7, bI_rI, if_pos h1, if_pos h8, er]
  · by_cases h1 : wb a 0 7 = 0
    · exact ⟨-1, s, s, by rw [LL_rule_eq, if_neg h8, LLw, bI_rI, if_pos h1], by rw [mo_rule_eq, mw_0_7, bI_rI, if_pos h1, if_neg h8], hJ⟩
    · have hw := wb_n h1
      have e0 : (0 : Int32).toInt = 0 := rfl
      have e7 : (7 : Int32).toInt = 7 := rfl
      have hb : inb a 8 = true := inb_of (by omega) (by omega)
      exact ⟨s 2 a.toNatClampNeg, s, s, by rw [LL_rule_eq, if_neg h8, LLw, bI_rI, if_neg h1, hb, gd_t], by rw [mo_rule_eq, mw_0_7, bI_rI, if_neg h1, hb, gd_t, e2], hJ⟩
theorem c_rent : CS2 J LL_rent mo_rent := by
  intro s a b hJ
  obtain ⟨⟨er, br⟩, -, e3⟩ := J_R hJ
  obtain ⟨q1, q2⟩ := br
  have e0 : (0 : Int32).toInt = 0 := rfl
  have e1 : (1 : Int32).toInt = 1 := rfl
  have e5 : (5 : Int32).toInt = 5 := rfl
  have e6 : (6 : Int32).toInt = 6 := rfl
  by_cases h1 : wb a 0 (s 1 2 - 1) = 0
  · exact ⟨-1, s, s, by rw [LL_rent_eq, LLw, bI_rI, if_pos h1], by rw [mo_rent_eq, mw0, er, bI_rI, if_pos h1], hJ⟩
  · by_cases h2 : wb b 0 5 = 0
    · exact ⟨-1, s, s, by rw [LL_rent_eq, LLw, bI_rI, if_neg h1, LLw, bI_rI, if_pos h2], by rw [mo_rent_eq, mw0, er, bI_rI, if_neg h1, mw_0_5, bI_rI, if_pos h2], hJ⟩
    · have hw := wb_n h1
      have hv := wb_n h2
      have es : (s 1 2 - 1).toInt = (s 1 2).toInt - 1 := by rw [i32_sub (by omega) (by omega), e1]
      have hb1 : inb a 8 = true := inb_of (by omega) (by omega)
      have hb2 : inb b 6 = true := inb_of (by omega) (by omega)
      have em : (6 * a).toInt = 6 * a.toInt := by
        rw [Int32.toInt_mul, e6, Int.bmod_def]
        split <;> omega
      have ea : (6 * a + b).toInt = 6 * a.toInt + b.toInt := by rw [i32_add (by omega) (by omega), em]
      have hb3 : inb (6 * a + b) 48 = true := inb_of (by omega) (by omega)
      have hlt : Nat.blt a.toNatClampNeg 8 = true := Nat.ble_eq_true_of_le (show a.toInt.toNat + 1 ≤ 8 by omega)
      have ei : (6 * a + b).toNatClampNeg = 6 * a.toNatClampNeg + b.toNatClampNeg := by
        show (6 * a + b).toInt.toNat = 6 * a.toInt.toNat + b.toInt.toNat
        omega
      refine ⟨s (4 + a.toNatClampNeg) b.toNatClampNeg, s, s, by rw [LL_rent_eq, LLw, bI_rI, if_neg h1, LLw, bI_rI, if_neg h2, hb1, gd_t, hlt, gd_t, hb2, gd_t], ?_, hJ⟩
      rw [mo_rent_eq, mw0, er, bI_rI, if_neg h1, mw_0_5, bI_rI, if_neg h2, hb3, gd_t, ei, ← e3 a.toNatClampNeg b.toNatClampNeg (show a.toInt.toNat < 8 by omega) (show ((a.toInt.toNat : Nat) : Int) < (s 1 2).toInt by omega) (show b.toInt.toNat < 6 by omega)]
