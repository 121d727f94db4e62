theorem moTwoL {s : mSt} (h : JN s) (x y : Int32) (ht : ¬ tw x y (s 25 2) = 0) {k : mSt → mO} : (bI (mo_isLand s x) fun v1 s1 => if v1 = 0 then rI (-1) s1 else bI (mo_isLand s1 y) fun v2 s2 => if v2 = 0 then rI (-1) s2 else if x = y then rI (-1) s2 else k s2) = k s := by rw [moTwo h, if_neg ht]
theorem c_line : CS6 J LL_line mo_line := by
  intro s x y z f q a hJ
  obtain ⟨hN, -⟩ := id hJ
  obtain ⟨⟨⟨en, bn⟩, ⟨el, bl⟩, hY⟩, ⟨p1, p2, p3, p4, p5, p6, p7, p8⟩, hX, hLn⟩ := id hN
  by_cases h1 : tw x y (s 25 2) = 0
  · exact ⟨-1, s, s, by rw [LL_line_eq, twoL hN, bI_rI, if_pos h1], by rw [mo_line_eq, moTwo hN, if_pos h1], hJ⟩
  by_cases h2 : wb z 0 1 = 0
  · exact ⟨-1, s, s, by rw [LL_line_eq, twoL hN, bI_rI, if_neg h1, LLw, bI_rI, if_pos h2], by rw [mo_line_eq, moTwo hN, if_neg h1, mw_0_1, bI_rI, if_pos h2], hJ⟩
  by_cases h3 : wb f 1 8 = 0
  · refine ⟨-1, s, s, ?_, by rw [mo_line_eq, moTwo hN, if_neg h1, mw_0_1, bI_rI, if_neg h2, mw_1_8, bI_rI, if_pos h3], hJ⟩
    rw [LL_line_eq, twoL hN, bI_rI, if_neg h1, LLw, bI_rI, if_neg h2, LLw, bI_rI]
    by_cases h6 : wb a 0 99 = 0
    · rw [if_pos h6]
    · rw [if_neg h6, LLw, bI_rI, if_pos h3]
  by_cases h4 : wb q 0 20 = 0
  · refine ⟨-1, s, s, ?_, by rw [mo_line_eq, moTwo hN, if_neg h1, mw_0_1, bI_rI, if_neg h2, mw_1_8, bI_rI, if_neg h3, mw_0_20, bI_rI, if_pos h4], hJ⟩
    rw [LL_line_eq, twoL hN, bI_rI, if_neg h1, LLw, bI_rI, if_neg h2, LLw, bI_rI]
    by_cases h6 : wb a 0 99 = 0
    · rw [if_pos h6]
    · rw [if_neg h6, LLw, bI_rI, if_neg h3, LLw, bI_rI, if_pos h4]
  by_cases h5 : wb a 0 99 = 0
  · exact ⟨-1, s, s, by rw [LL_line_eq, twoL hN, bI_rI, if_neg h1, LLw, bI_rI, if_neg h2, LLw, bI_rI, if_pos h5], by rw [mo_line_eq, moTwo hN, if_neg h1, mw_0_1, bI_rI, if_neg h2, mw_1_8, bI_rI, if_neg h3, mw_0_20, bI_rI, if_neg h4, mw_0_99, bI_rI, if_pos h5], hJ⟩
  by_cases h6 : s 25 5 = 12
  · have h7 : ¬ s 25 5 < 12 := fun r => ((full bl rfl).mp r) h6
    exact ⟨-3, s, s, by rw [LL_line_eq, twoL hN, bI_rI, if_neg h1, LLw, bI_rI, if_neg h2, LLw, bI_rI, if_neg h5, LLw, bI_rI, if_neg h3, LLw, bI_rI, if_neg h4, ne_addLine_eq, if_neg h7, bI_rI, if_pos (by decide)], by rw [mo_line_eq, moTwo hN, if_neg h1, mw_0_1, bI_rI, if_neg h2, mw_1_8, bI_rI, if_neg h3, mw_0_20, bI_rI, if_neg h4, mw_0_99, bI_rI, if_neg h5, if_pos (el.trans h6)], hJ⟩
  have h7 : s 25 5 < 12 := (full bl rfl).mpr h6
  have e12 : (12 : Int32).toInt = 12 := rfl
  have h8 : (s 25 5).toInt < 12 := by rw [Int32.lt_iff_toInt_lt] at h7; omega
  have b0 := bl.1
  have hi : inb (s 25 5) 12 = true := inb_of bl.1 (by omega)
  obtain ⟨t1, t2, t3⟩ := tw_n h1
  obtain ⟨x1, x2⟩ := wb_lt bn (by decide) t1
  obtain ⟨y1, y2⟩ := wb_lt bn (by decide) t2
  have hn8 := bn.2
  have hx : inb x 8 = true := inb_of x1 (by omega)
  have hy : inb y 8 = true := inb_of y1 (by omega)
  have w2 := wb_n h2
  have w3 := wb_n h3
  have w4 := wb_n h4
  have w5 := wb_n h5
  have r0 : (0 : Int32).toInt = 0 := rfl
  have r1 : (1 : Int32).toInt = 1 := rfl
  have r8 : (8 : Int32).toInt = 8 := rfl
  have r20 : (20 : Int32).toInt = 20 := rfl
  have r99 : (99 : Int32).toInt = 99 := rfl
  have a1 := add1 bl (by decide)
  have hng : ¬ s 25 5 < 0 := by rw [Int32.lt_iff_toInt_lt]; omega
  obtain ⟨d, hdef⟩ : ∃ d : Int32, d = jAbs (s 26 x.toNatClampNeg - s 26 y.toNatClampNeg) + jAbs (s 27 x.toNatClampNeg - s 27 y.toNatClampNeg) := ⟨_, rfl⟩
  obtain ⟨g, hg⟩ : ∃ g, g = wr (wr (wr (wr (wr (wr (wr (wr s 28 (s 25 5).toNatClampNeg x) 29 (s 25 5).toNatClampNeg y) 34 (s 25 5).toNatClampNeg d) 25 5 (s 25 5 + 1)) 30 (s 25 5).toNatClampNeg z) 31 (s 25 5).toNatClampNeg f) 32 (s 25 5).toNatClampNeg q) 33 (s 25 5).toNatClampNeg a := ⟨_, rfl⟩
  have gL : ∀ w, mo_isLand g w = rI (wb w 0 (s 25 2 - 1)) g := fun w => by
    rw [mo_isLand_eq, mw0, bI_rI, bz_wb, gd_t, show g 183 0 = s 25 2 by rw [hg]; exact en]
  have g1 : g 183 3 = s 25 5 := by rw [hg]; exact el
  refine ⟨s 25 5, g, wr (wr (wr (wr (wr (wr (wr g 186 (s 25 5).toNatClampNeg x) 187 (s 25 5).toNatClampNeg y) 188 (s 25 5).toNatClampNeg z) 189 (s 25 5).toNatClampNeg f) 190 (s 25 5).toNatClampNeg q) 191 (s 25 5).toNatClampNeg a) 183 3 (s 25 5 + 1), ?_, ?_, ?_⟩
  · rw [LL_line_eq, twoL hN, bI_rI, if_neg h1, LLw, bI_rI, if_neg h2, LLw, bI_rI, if_neg h5, LLw, bI_rI, if_neg h3, LLw, bI_rI, if_neg h4, ne_addLine_eq, if_pos h7, hi, hx, hy, gd_t, gd_t, gd_t, gd_t, gd_t, gd_t, gd_t, bI_rI, up1, if_neg hng, hi, gd_t, gd_t, gd_t, gd_t, hg, hdef]
  · rw [mo_line_eq, gL, bI_rI, if_neg t1, gL, bI_rI, if_neg t2, if_neg t3, mw_0_1, bI_rI, if_neg h2, mw_1_8, bI_rI, if_neg h3, mw_0_20, bI_rI, if_neg h4, mw_0_99, bI_rI, if_neg h5, g1, if_neg h6, hi, gd_t, gd_t, gd_t, gd_t, gd_t, gd_t, up1]
  · subst hg
    refine J_butN (Fr_m rfl rfl (Fr_w rfl rfl (Fr_w rfl rfl (Fr_w rfl rfl (Fr_w rfl rfl (Fr_w rfl rfl (Fr_w rfl rfl (Fr_w rfl rfl (Fr_w rfl rfl (Fr_w rfl rfl (Fr_w rfl rfl (Fr_w rfl rfl (Fr_w rfl rfl (Fr_w rfl rfl (Fr_w rfl rfl Fr_rf))))))))))))))) hJ ⟨⟨⟨en, bn⟩, ⟨rfl, ?_⟩, hY⟩, ⟨p1, p2, ?_, ?_, ?_, ?_, ?_, ?_⟩, hX, fun j hj => ?_⟩ (show JX s from J_X hJ) ⟨(J_Y hJ).1, fun j hj => ?_⟩
    · show bd (s 25 5 + 1) 0 12
      exact ⟨by omega, by omega⟩
    · show upd (s 186) _ _ = upd (s 28) _ _
      rw [p3]
    · show upd (s 187) _ _ = upd (s 29) _ _
      rw [p4]
    · show upd (s 188) _ _ = upd (s 30) _ _
      rw [p5]
    · show upd (s 189) _ _ = upd (s 31) _ _
      rw [p6]
    · show upd (s 190) _ _ = upd (s 32) _ _
      rw [p7]
    · show upd (s 191) _ _ = upd (s 33) _ _
      rw [p8]
    · have hj : (j : Int) < (s 25 5 + 1).toInt := hj
      rw [a1] at hj
      show (bd (upd (s 28) (s 25 5).toNatClampNeg x j) 0 ((s 25 2).toInt - 1) ∧ bd (upd (s 29) (s 25 5).toNatClampNeg y j) 0 ((s 25 2).toInt - 1) ∧ upd (s 28) (s 25 5).toNatClampNeg x j ≠ upd (s 29) (s 25 5).toNatClampNeg y j) ∧ bd (upd (s 30) (s 25 5).toNatClampNeg z j) 0 1 ∧ bd (upd (s 31) (s 25 5).toNatClampNeg f j) 1 8 ∧ bd (upd (s 32) (s 25 5).toNatClampNeg q j) 0 20 ∧ bd (upd (s 33) (s 25 5).toNatClampNeg a j) 0 99 ∧ upd (s 34) (s 25 5).toNatClampNeg d j = jAbs (s 26 (upd (s 28) (s 25 5).toNatClampNeg x j).toNatClampNeg - s 26 (upd (s 29) (s 25 5).toNatClampNeg y j).toNatClampNeg) + jAbs (s 27 (upd (s 28) (s 25 5).toNatClampNeg x j).toNatClampNeg - s 27 (upd (s 29) (s 25 5).toNatClampNeg y j).toNatClampNeg)
      by_cases ej : j = (s 25 5).toNatClampNeg
      · subst ej
        rw [upd_at, upd_at, upd_at, upd_at, upd_at, upd_at, upd_at]
        exact ⟨⟨⟨by omega, by omega⟩, ⟨by omega, by omega⟩, t3⟩, ⟨by omega, by omega⟩, ⟨by omega, by omega⟩, ⟨by omega, by omega⟩, ⟨by omega, by omega⟩, hdef⟩
      · rw [upd_ne ej, upd_ne ej, upd_ne ej, upd_ne ej, upd_ne ej, upd_ne ej, upd_ne ej]
        have : ¬ j = (s 25 5).toInt.toNat := ej
        exact hLn j (by omega)
    · obtain ⟨⟨c1, c2⟩, ⟨c3, c4, c5⟩, c6⟩ := (J_Y hJ).2 j hj
      refine ⟨⟨?_, c2⟩, ⟨c3, c4, ?_⟩, c6⟩
      · show bd (s 36 j) 0 ((s 25 5 + 1).toInt - 1)
        exact ⟨c1.1, by have := c1.2; omega⟩
      · show (s 40 j).toInt ≤ (upd (s 34) (s 25 5).toNatClampNeg d (s 36 j).toNatClampNeg).toInt
        rw [upd_ne]
        · exact c5
        · show ¬ (s 36 j).toInt.toNat = (s 25 5).toInt.toNat
          have := c1.1
          have := c1.2
          omega
