theorem upd_at {f : Nat → Int32} {j : Nat} {v : Int32} : upd f j v j = v := if_pos rfl
theorem upd_ne {f : Nat → Int32} {j k : Nat} {v : Int32} (h : ¬ k = j) : upd f j v k = f k := if_neg h
theorem c_land : CS2 J LL_land mo_land := by
  intro s x y hJ
  obtain ⟨hN, -⟩ := id hJ
  obtain ⟨⟨⟨en, bn⟩, hB, hY⟩, ⟨p1, p2, hE⟩, hX, hLn⟩ := id hN
  by_cases h1 : wb x 0 99 = 0
  · exact ⟨-1, s, s, by rw [LL_land_eq, LLw, bI_rI, if_pos h1], by rw [mo_land_eq, mw_0_99, bI_rI, if_pos h1], hJ⟩
  · by_cases h2 : wb y 0 99 = 0
    · exact ⟨-1, s, s, by rw [LL_land_eq, LLw, bI_rI, if_neg h1, LLw, bI_rI, if_pos h2], by rw [mo_land_eq, mw_0_99, bI_rI, if_neg h1, mw_0_99, bI_rI, if_pos h2], hJ⟩
    · by_cases h3 : s 25 2 = 8
      · have h4 : ¬ s 25 2 < 8 := fun q => ((full bn rfl).mp q) h3
        exact ⟨-3, s, s, by rw [LL_land_eq, LLw, bI_rI, if_neg h1, LLw, bI_rI, if_neg h2, ne_addLand_eq, if_neg h4, bI_rI], by rw [mo_land_eq, mw_0_99, bI_rI, if_neg h1, mw_0_99, bI_rI, if_neg h2, if_pos (en.trans h3)], hJ⟩
      · have h4 : s 25 2 < 8 := (full bn rfl).mpr h3
        have e8 : (8 : Int32).toInt = 8 := rfl
        have h5 : (s 25 2).toInt < 8 := by rw [Int32.lt_iff_toInt_lt] at h4; omega
        have hi : inb (s 25 2) 8 = true := inb_of bn.1 (by omega)
        have hx := wb_n h1
        have hy := wb_n h2
        have e0 : (0 : Int32).toInt = 0 := rfl
        have e99 : (99 : Int32).toInt = 99 := rfl
        have a1 := add1 bn (by decide)
        have b0 := bn.1
        refine ⟨s 25 2, wr (wr (wr s 26 (s 25 2).toNatClampNeg x) 27 (s 25 2).toNatClampNeg y) 25 2 (s 25 2 + 1), wr (wr (wr (wr (wr (wr s 26 (s 25 2).toNatClampNeg x) 27 (s 25 2).toNatClampNeg y) 25 2 (s 25 2 + 1)) 184 (s 25 2).toNatClampNeg x) 185 (s 25 2).toNatClampNeg y) 183 0 (s 25 2 + 1), by rw [LL_land_eq, LLw, bI_rI, if_neg h1, LLw, bI_rI, if_neg h2, ne_addLand_eq, if_pos h4, hi, gd_t, gd_t, bI_rI, up1], ?_, J_butN (Fr_m rfl rfl (Fr_w rfl rfl (Fr_w rfl rfl (Fr_w rfl rfl (Fr_w rfl rfl (Fr_w rfl rfl Fr_rf)))))) hJ ⟨⟨⟨rfl, ?_⟩, hB, hY⟩, ⟨?_, ?_, hE⟩, fun j => ?_, fun j hj => ?_⟩ ⟨fun j hj => ?_, fun j hj => ?_⟩ (show JY s from J_Y hJ)⟩
        · generalize hg : wr (wr (wr s 26 (s 25 2).toNatClampNeg x) 27 (s 25 2).toNatClampNeg y) 25 2 (s 25 2 + 1) = g
          have g1 : g 183 0 = s 25 2 := by rw [← hg]; exact en
          rw [mo_land_eq, mw_0_99, bI_rI, if_neg h1, mw_0_99, bI_rI, if_neg h2, g1, if_neg h3, hi, gd_t, gd_t, up1]
        · show bd (s 25 2 + 1) 0 8
          exact ⟨by omega, by omega⟩
        · show upd (s 184) _ x = upd (s 26) _ x
          rw [p1]
        · show upd (s 185) _ y = upd (s 27) _ y
          rw [p2]
        · show bd (upd (s 26) (s 25 2).toNatClampNeg x j) 0 99 ∧ bd (upd (s 27) (s 25 2).toNatClampNeg y j) 0 99
          by_cases e : j = (s 25 2).toNatClampNeg
          · subst e
            rw [upd_at, upd_at]
            exact ⟨⟨by omega, by omega⟩, ⟨by omega, by omega⟩⟩
          · rw [upd_ne e, upd_ne e]
            exact hX j
        · obtain ⟨⟨l1, l2, l3⟩, l4, l5, l6, l7, l8⟩ := hLn j hj
          have n1 : ¬ (s 28 j).toNatClampNeg = (s 25 2).toNatClampNeg := by
            show ¬ (s 28 j).toInt.toNat = (s 25 2).toInt.toNat
            obtain ⟨q1, q2⟩ := l1
            omega
          have n2 : ¬ (s 29 j).toNatClampNeg = (s 25 2).toNatClampNeg := by
            show ¬ (s 29 j).toInt.toNat = (s 25 2).toInt.toNat
            obtain ⟨q1, q2⟩ := l2
            omega
          refine ⟨⟨?_, ?_, l3⟩, l4, l5, l6, l7, ?_⟩
          · show bd (s 28 j) 0 ((s 25 2 + 1).toInt - 1)
            exact ⟨l1.1, by have := l1.2; omega⟩
          · show bd (s 29 j) 0 ((s 25 2 + 1).toInt - 1)
            exact ⟨l2.1, by have := l2.2; omega⟩
          · show s 34 j = jAbs (upd (s 26) (s 25 2).toNatClampNeg x (s 28 j).toNatClampNeg - upd (s 26) (s 25 2).toNatClampNeg x (s 29 j).toNatClampNeg) + jAbs (upd (s 27) (s 25 2).toNatClampNeg y (s 28 j).toNatClampNeg - upd (s 27) (s 25 2).toNatClampNeg y (s 29 j).toNatClampNeg)
            rw [upd_ne n1, upd_ne n2, upd_ne n1, upd_ne n2]
            exact l8
        · show (s 44 j).toInt < (s 25 2 + 1).toInt ∧ (s 45 j).toInt < (s 25 2 + 1).toInt
          have := (J_X hJ).1 j hj
          omega
        · show (s 167 j).toInt < (s 25 2 + 1).toInt ∧ (s 168 j).toInt < (s 25 2 + 1).toInt
          have := (J_X hJ).2 j hj
          omega
/-- a line's length, as the reference reckons it -/
theorem pl1 (s : mSt) (x : Int32) : mo_plain1 s x = rI (jAbs x) s := by
  rw [mo_plain1_eq]
  unfold jAbs
  by_cases h : 0 ≤ x
  · rw [if_pos h, if_pos h]
  · rw [if_neg h, if_neg h, Int32.zero_sub]
theorem lenM {s : mSt} (h : JN s) {x : Int32} (h1 : 0 ≤ x.toInt) (h2 : x.toInt < (s 25 5).toInt) : mo_lengthOf s x = rI (s 34 x.toNatClampNeg) s := by
  obtain ⟨⟨⟨en, bn⟩, ⟨el, bl⟩, hY⟩, ⟨p1, p2, p3, p4, hE⟩, hX, hLn⟩ := id h
  have hb := bl.2
  obtain ⟨⟨l1, l2, l3⟩, l4, l5, l6, l7, l8⟩ := hLn x.toNatClampNeg (show ((x.toInt.toNat : Nat) : Int) < _ by omega)
  have hi : inb x 12 = true := inb_of h1 (by omega)
  have q := bn.2
  have hf : inb (s 28 x.toNatClampNeg) 8 = true := inb_of l1.1 (by have := l1.2; omega)
  have ht : inb (s 29 x.toNatClampNeg) 8 = true := inb_of l2.1 (by have := l2.2; omega)
  rw [mo_lengthOf_eq]
  simp only [hi, hf, ht, gd_t, pl1, bI_rI, p3, p4, p1, p2]
  rw [l8]
  rfl
theorem c_light : CS1 J LL_light mo_light := by
  intro s x hJ
  have hN := J_N hJ
  obtain ⟨-, er2, -⟩ := J_R hJ
  obtain ⟨⟨⟨en, bn⟩, ⟨el, bl⟩, ⟨ey, by1⟩⟩, ⟨p1, p2, p3, p4, p5, p6, p7, p8⟩, hX, hLn⟩ := id hN
  by_cases h1 : wb x 0 (s 25 5 - 1) = 0
  · exact ⟨-10000, s, s, by rw [LL_light_eq, hasN hN, bI_rI, if_pos h1], by rw [mo_light_eq, moN hN, bI_rI, if_pos h1], hJ⟩
  · obtain ⟨x1, x2⟩ := wb_lt bl (by decide) h1
    have hb := bl.2
    have hi : inb x 12 = true := inb_of x1 (by omega)
    obtain ⟨-, -, -, -, l7, -⟩ := hLn x.toNatClampNeg (show ((x.toInt.toNat : Nat) : Int) < _ by omega)
    refine ⟨_, s, s, by rw [LL_light_eq, hasN hN, bI_rI, if_neg h1, ne_lightIn_eq, hi, gd_t, gd_t, gd_t, bI_rI], ?_, hJ⟩
    rw [mo_light_eq, moN hN, bI_rI, if_neg h1, mo_lightIn_eq, hi, gd_t, ey, p8]
    have key : ∀ t, mo_lightIn_22 s x t = rI ((((s 2 0) - ((s 2 2) * (s 34 x.toNatClampNeg))) - ((s 2 3) * (s 32 x.toNatClampNeg))) - ((s 2 4) * t)) s := fun t => by
      rw [mo_lightIn_22_eq, lenM hN x1 x2, bI_rI, hi, gd_t, er2, p7]
    obtain ⟨y1, y2⟩ := by1
    obtain ⟨z1, z2⟩ := l7
    have es : (s 25 1 - s 33 x.toNatClampNeg).toInt = (s 25 1).toInt - (s 33 x.toNatClampNeg).toInt := i32_sub (by omega) (by omega)
    have e0 : (0 : Int32).toInt = 0 := rfl
    by_cases h3 : s 25 1 ≤ s 33 x.toNatClampNeg
    · rw [if_pos h3, key, bI_rI]
      have : jMax 0 (s 25 1 - s 33 x.toNatClampNeg) = 0 := by
        unfold jMax
        rw [if_neg]
        rw [Int32.lt_iff_toInt_lt, es, e0]
        rw [Int32.le_iff_toInt_le] at h3
        omega
      rw [this]
    · rw [if_neg h3, gd_t, key, bI_rI]
      have : jMax 0 (s 25 1 - s 33 x.toNatClampNeg) = s 25 1 - s 33 x.toNatClampNeg := by
        unfold jMax
        rw [if_pos]
        rw [Int32.lt_iff_toInt_lt, es, e0]
        rw [Int32.le_iff_toInt_le] at h3
        omega
      rw [this]
