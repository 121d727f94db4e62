theorem has_wb {x n : Int32} {m : Int} (hb : bd n 0 m) (hm : m < 1000000) : (if x < 0 then (0 : Int32) else if n ≤ x then 0 else 1) = wb x 0 (n - 1) := by
  obtain ⟨q1, q2⟩ := hb
  have e1 : (1 : Int32).toInt = 1 := rfl
  have es : (n - 1).toInt = n.toInt - 1 := by rw [i32_sub (by omega) (by omega), e1]
  unfold wb
  by_cases h : x < 0
  · rw [if_pos h, if_pos h]
  · rw [if_neg h, if_neg h]
    by_cases h2 : n ≤ x
    · rw [if_pos h2, if_pos (by rw [Int32.lt_iff_toInt_lt, es]; rw [Int32.le_iff_toInt_le] at h2; omega)]
    · rw [if_neg h2, if_neg (by rw [Int32.lt_iff_toInt_lt, es]; rw [Int32.le_iff_toInt_le] at h2; omega)]
theorem bz_wb {x a b : Int32} : bz (wb x a b) = true := by
  rcases wb_01 (x := x) (a := a) (b := b) with h | h <;> rw [h] <;> rfl
theorem hasL {s : mSt} (h : JN s) (x : Int32) : ne_hasLand s x = rI (wb x 0 (s 25 2 - 1)) s := by
  rw [hasLand, has_wb h.1.1.2 (by decide)]
theorem moL {s : mSt} (h : JN s) (x : Int32) : mo_isLand s x = rI (wb x 0 (s 25 2 - 1)) s := by
  rw [mo_isLand_eq, mw0, bI_rI, bz_wb, gd_t, h.1.1.1]
theorem hasN {s : mSt} (h : JN s) (x : Int32) : ne_hasLine s x = rI (wb x 0 (s 25 5 - 1)) s := by
  have : ne_hasLine s x = rI (if x < 0 then 0 else if s 25 5 ≤ x then 0 else 1) s := by
    rw [ne_hasLine_eq]
    split
    · rfl
    · split <;> rfl
  rw [this, has_wb h.1.2.1.2 (by decide)]
theorem moN {s : mSt} (h : JN s) (x : Int32) : mo_isLine s x = rI (wb x 0 (s 25 5 - 1)) s := by
  rw [mo_isLine_eq, mw0, bI_rI, bz_wb, gd_t, h.1.2.1.1]
theorem wb_lt {x n : Int32} {m : Int} (hb : bd n 0 m) (hm : m < 1000000) (h : ¬ wb x 0 (n - 1) = 0) : 0 ≤ x.toInt ∧ x.toInt < n.toInt := by
  obtain ⟨q1, q2⟩ := hb
  have e0 : (0 : Int32).toInt = 0 := rfl
  have e1 : (1 : Int32).toInt = 1 := rfl
  have es : (n - 1).toInt = n.toInt - 1 := by rw [i32_sub (by omega) (by omega), e1]
  have := wb_n h
  omega
/-- two lands that differ -/
def tw (x y n : Int32) : Int32 := if wb x 0 (n - 1) = 0 then 0 else if wb y 0 (n - 1) = 0 then 0 else if x = y then 0 else 1
theorem twoL {s : mSt} (h : JN s) (x y : Int32) : LL_areTwoLands s x y = rI (tw x y (s 25 2)) s := by
  rw [LL_areTwoLands_eq, hasL h, bI_rI]
  unfold tw
  by_cases h1 : wb x 0 (s 25 2 - 1) = 0
  · rw [if_pos h1, if_pos h1]
  · rw [if_neg h1, if_neg h1, hasL h, bI_rI]
    by_cases h2 : wb y 0 (s 25 2 - 1) = 0
    · rw [if_pos h2, if_pos h2]
    · rw [if_neg h2, if_neg h2]
      split <;> rfl
theorem tw_n {x y n : Int32} (h : ¬ tw x y n = 0) : ¬ wb x 0 (n - 1) = 0 ∧ ¬ wb y 0 (n - 1) = 0 ∧ ¬ x = y := by
  unfold tw at h
  split at h
  · exact absurd rfl h
  · split at h
    · exact absurd rfl h
    · split at h
      · exact absurd rfl h
      · exact ⟨by assumption, by assumption, by assumption⟩
/-- the reference's three checks of two lands are the class's one -/
theorem moTwo {s : mSt} (h : JN s) (x y : Int32) {k : mSt → mO} : (bI (mo_isLand s x) fun v1 s1 => if v1 = 0 then rI (-1) s1 else bI (mo_isLand s1 y) fun v2 s2 => if v2 = 0 then rI (-1) s2 else if x = y then rI (-1) s2 else k s2) = if tw x y (s 25 2) = 0 then rI (-1) s else k s := by
  rw [moL h, bI_rI]
  unfold tw
  by_cases h1 : wb x 0 (s 25 2 - 1) = 0
  · rw [if_pos h1, if_pos h1, if_pos rfl]
  · rw [if_neg h1, if_neg h1, moL h, bI_rI]
    by_cases h2 : wb y 0 (s 25 2 - 1) = 0
    · rw [if_pos h2, if_pos h2, if_pos rfl]
    · rw [if_neg h2, if_neg h2]
      by_cases h3 : x = y
      · rw [if_pos h3, if_pos h3, if_pos rfl]
      · rw [if_neg h3, if_neg h3, if_neg (by decide)]
theorem full {n : Int32} {m : Int32} {b : Int} (hb : bd n 0 b) (hm : m.toInt = b) : (n < m ↔ ¬ n = m) := by
  obtain ⟨q1, q2⟩ := hb
  rw [Int32.lt_iff_toInt_lt, hm, ← Int32.toInt_inj, hm]
  omega
theorem up1 {n : Int32} : n + 1 - 1 = n := by
  rw [Int32.add_sub_cancel]
theorem c_plan : CS3 J LL_plan mo_plan := by
  intro s x y z hJ
  obtain ⟨hN, hB, hD, hF, ⟨⟨ep, bp⟩, ⟨p1, p2, p3⟩, hp⟩, hR⟩ := id hJ
  by_cases h1 : tw x y (s 25 2) = 0
  · exact ⟨-1, s, s, by rw [LL_plan_eq, twoL hN, bI_rI, if_pos h1], by rw [mo_plan_eq, moTwo hN, if_pos h1], hJ⟩
  · by_cases h2 : wb z 1 999 = 0
    · exact ⟨-1, s, s, by rw [LL_plan_eq, twoL hN, bI_rI, if_neg h1, LLw, bI_rI, if_pos h2], by rw [mo_plan_eq, moTwo hN, if_neg h1, mw_1_999, bI_rI, if_pos h2], hJ⟩
    · by_cases h3 : s 166 3 = 8
      · have h4 : ¬ s 166 3 < 8 := fun q => ((full bp rfl).mp q) h3
        exact ⟨-3, s, s, by rw [LL_plan_eq, twoL hN, bI_rI, if_neg h1, LLw, bI_rI, if_neg h2, sp_add_166_eq, if_neg h4, bI_rI], by rw [mo_plan_eq, moTwo hN, if_neg h1, mw_1_999, bI_rI, if_neg h2, if_pos (ep.trans h3)], hJ⟩
      · have h4 : s 166 3 < 8 := (full bp rfl).mpr h3
        have e8 : (8 : Int32).toInt = 8 := rfl
        have h5 : (s 166 3).toInt < 8 := by rw [Int32.lt_iff_toInt_lt] at h4; omega
        have hi : inb (s 166 3) 8 = true := inb_of bp.1 (by omega)
        obtain ⟨t1, t2, t3⟩ := tw_n h1
        obtain ⟨x1, x2⟩ := wb_lt hN.1.1.2 (by decide) t1
        obtain ⟨y1, y2⟩ := wb_lt hN.1.1.2 (by decide) t2
        have hz := wb_n h2
        have hl := hN.1.1.2.2
        have e1 : (1 : Int32).toInt = 1 := rfl
        have e999 : (999 : Int32).toInt = 999 := rfl
        refine ⟨s 166 3, wr (wr (wr (wr s 167 (s 166 3).toNatClampNeg x) 168 (s 166 3).toNatClampNeg y) 169 (s 166 3).toNatClampNeg z) 166 3 (s 166 3 + 1), wr (wr (wr (wr (wr (wr (wr (wr s 167 (s 166 3).toNatClampNeg x) 168 (s 166 3).toNatClampNeg y) 169 (s 166 3).toNatClampNeg z) 166 3 (s 166 3 + 1)) 231 (s 166 3).toNatClampNeg x) 232 (s 166 3).toNatClampNeg y) 233 (s 166 3).toNatClampNeg z) 183 67 (s 166 3 + 1), by rw [LL_plan_eq, twoL hN, bI_rI, if_neg h1, LLw, bI_rI, if_neg h2, sp_add_166_eq, if_pos h4, hi, gd_t, gd_t, gd_t, bI_rI, up1], ?_, ?_⟩
        · have hN' : JN (wr (wr (wr (wr s 167 (s 166 3).toNatClampNeg x) 168 (s 166 3).toNatClampNeg y) 169 (s 166 3).toNatClampNeg z) 166 3 (s 166 3 + 1)) := JN_fr (Fr_w rfl rfl (Fr_w rfl rfl (Fr_w rfl rfl (Fr_w rfl rfl Fr_rf)))) hN
          generalize hg : wr (wr (wr (wr s 167 (s 166 3).toNatClampNeg x) 168 (s 166 3).toNatClampNeg y) 169 (s 166 3).toNatClampNeg z) 166 3 (s 166 3 + 1) = g at hN'
          have g1 : g 183 67 = s 166 3 := by rw [← hg]; exact ep
          have g2 : g 25 2 = s 25 2 := by rw [← hg]; rfl
          rw [mo_plan_eq, moTwo hN', g2, if_neg h1, mw_1_999, bI_rI, if_neg h2, g1, if_neg h3, hi, gd_t, gd_t, gd_t, up1]
        · refine J_butP (Fr_m rfl rfl (Fr_w rfl rfl (Fr_w rfl rfl (Fr_w rfl rfl (Fr_w rfl rfl (Fr_w rfl rfl (Fr_w rfl rfl (Fr_w rfl rfl Fr_rf)))))))) hJ ⟨⟨rfl, ?_⟩, ⟨?_, ?_, ?_⟩, fun j hj => ?_⟩ ⟨(J_X hJ).1, fun j hj => ?_⟩
          · show bd (s 166 3 + 1) 0 8
            have := add1 bp (by decide)
            exact ⟨by have := bp.1; omega, by omega⟩
          · show upd (s 231) _ x = upd (s 167) _ x
            rw [p1]
          · show upd (s 232) _ y = upd (s 168) _ y
            rw [p2]
          · show upd (s 233) _ z = upd (s 169) _ z
            rw [p3]
          · have hj : (j : Int) < (s 166 3 + 1).toInt := hj
            rw [add1 bp (by decide)] at hj
            show (bd (upd (s 167) (s 166 3).toNatClampNeg x j) 0 7 ∧ bd (upd (s 168) (s 166 3).toNatClampNeg y j) 0 7 ∧ upd (s 167) (s 166 3).toNatClampNeg x j ≠ upd (s 168) (s 166 3).toNatClampNeg y j) ∧ bd (upd (s 169) (s 166 3).toNatClampNeg z j) 1 999
            unfold upd
            by_cases e : j = (s 166 3).toNatClampNeg
            · rw [if_pos e, if_pos e, if_pos e]
              exact ⟨⟨⟨by omega, by omega⟩, ⟨by omega, by omega⟩, t3⟩, ⟨by omega, by omega⟩⟩
            · rw [if_neg e, if_neg e, if_neg e]
              have : ¬ j = (s 166 3).toInt.toNat := e
              exact hp j (by omega)
          · have hj : (j : Int) < (s 166 3 + 1).toInt := hj
            rw [add1 bp (by decide)] at hj
            show (upd (s 167) (s 166 3).toNatClampNeg x j).toInt < (s 25 2).toInt ∧ (upd (s 168) (s 166 3).toNatClampNeg y j).toInt < (s 25 2).toInt
            unfold upd
            by_cases e : j = (s 166 3).toNatClampNeg
            · rw [if_pos e, if_pos e]
              exact ⟨x2, y2⟩
            · rw [if_neg e, if_neg e]
              have : ¬ j = (s 166 3).toInt.toNat := e
              exact (J_X hJ).2 j (by omega)
theorem c_demand : CS3 J LL_demand mo_demand := by
  intro s x y z hJ
  obtain ⟨hN, hB, ⟨⟨ep, bp⟩, ⟨p1, p2, p3⟩, hp⟩, hF, hP, hR⟩ := id hJ
  by_cases h1 : tw x y (s 25 2) = 0
  · exact ⟨-1, s, s, by rw [LL_demand_eq, twoL hN, bI_rI, if_pos h1], by rw [mo_demand_eq, moTwo hN, if_pos h1], hJ⟩
  · by_cases h2 : wb z 1 99 = 0
    · exact ⟨-1, s, s, by rw [LL_demand_eq, twoL hN, bI_rI, if_neg h1, LLw, bI_rI, if_pos h2], by rw [mo_demand_eq, moTwo hN, if_neg h1, mw_1_99, bI_rI, if_pos h2], hJ⟩
    · by_cases h3 : s 43 3 = 12
      · have h4 : ¬ s 43 3 < 12 := fun q => ((full bp rfl).mp q) h3
        exact ⟨-3, s, s, by rw [LL_demand_eq, twoL hN, bI_rI, if_neg h1, LLw, bI_rI, if_neg h2, sp_add_43_eq, if_neg h4, bI_rI], by rw [mo_demand_eq, moTwo hN, if_neg h1, mw_1_99, bI_rI, if_neg h2, if_pos (ep.trans h3)], hJ⟩
      · have h4 : s 43 3 < 12 := (full bp rfl).mpr h3
        have e8 : (12 : Int32).toInt = 12 := rfl
        have h5 : (s 43 3).toInt < 12 := by rw [Int32.lt_iff_toInt_lt] at h4; omega
        have hi : inb (s 43 3) 12 = true := inb_of bp.1 (by omega)
        obtain ⟨t1, t2, t3⟩ := tw_n h1
        obtain ⟨x1, x2⟩ := wb_lt hN.1.1.2 (by decide) t1
        obtain ⟨y1, y2⟩ := wb_lt hN.1.1.2 (by decide) t2
        have hz := wb_n h2
        have hl := hN.1.1.2.2
        have e1 : (1 : Int32).toInt = 1 := rfl
        have e999 : (99 : Int32).toInt = 99 := rfl
        refine ⟨s 43 3, wr (wr (wr (wr s 44 (s 43 3).toNatClampNeg x) 45 (s 43 3).toNatClampNeg y) 46 (s 43 3).toNatClampNeg z) 43 3 (s 43 3 + 1), wr (wr (wr (wr (wr (wr (wr (wr s 44 (s 43 3).toNatClampNeg x) 45 (s 43 3).toNatClampNeg y) 46 (s 43 3).toNatClampNeg z) 43 3 (s 43 3 + 1)) 198 (s 43 3).toNatClampNeg x) 199 (s 43 3).toNatClampNeg y) 200 (s 43 3).toNatClampNeg z) 183 27 (s 43 3 + 1), by rw [LL_demand_eq, twoL hN, bI_rI, if_neg h1, LLw, bI_rI, if_neg h2, sp_add_43_eq, if_pos h4, hi, gd_t, gd_t, gd_t, bI_rI, up1], ?_, ?_⟩
        · have hN' : JN (wr (wr (wr (wr s 44 (s 43 3).toNatClampNeg x) 45 (s 43 3).toNatClampNeg y) 46 (s 43 3).toNatClampNeg z) 43 3 (s 43 3 + 1)) := JN_fr (Fr_w rfl rfl (Fr_w rfl rfl (Fr_w rfl rfl (Fr_w rfl rfl Fr_rf)))) hN
          generalize hg : wr (wr (wr (wr s 44 (s 43 3).toNatClampNeg x) 45 (s 43 3).toNatClampNeg y) 46 (s 43 3).toNatClampNeg z) 43 3 (s 43 3 + 1) = g at hN'
          have g1 : g 183 27 = s 43 3 := by rw [← hg]; exact ep
          have g2 : g 25 2 = s 25 2 := by rw [← hg]; rfl
          rw [mo_demand_eq, moTwo hN', g2, if_neg h1, mw_1_99, bI_rI, if_neg h2, g1, if_neg h3, hi, gd_t, gd_t, gd_t, up1]
        · refine J_butD (Fr_m rfl rfl (Fr_w rfl rfl (Fr_w rfl rfl (Fr_w rfl rfl (Fr_w rfl rfl (Fr_w rfl rfl (Fr_w rfl rfl (Fr_w rfl rfl Fr_rf)))))))) hJ ⟨⟨rfl, ?_⟩, ⟨?_, ?_, ?_⟩, fun j hj => ?_⟩ ⟨fun j hj => ?_, (J_X hJ).2⟩
          · show bd (s 43 3 + 1) 0 12
            have := add1 bp (by decide)
            exact ⟨by have := bp.1; omega, by omega⟩
          · show upd (s 198) _ x = upd (s 44) _ x
            rw [p1]
          · show upd (s 199) _ y = upd (s 45) _ y
            rw [p2]
          · show upd (s 200) _ z = upd (s 46) _ z
            rw [p3]
          · have hj : (j : Int) < (s 43 3 + 1).toInt := hj
            rw [add1 bp (by decide)] at hj
            show (bd (upd (s 44) (s 43 3).toNatClampNeg x j) 0 7 ∧ bd (upd (s 45) (s 43 3).toNatClampNeg y j) 0 7 ∧ upd (s 44) (s 43 3).toNatClampNeg x j ≠ upd (s 45) (s 43 3).toNatClampNeg y j) ∧ bd (upd (s 46) (s 43 3).toNatClampNeg z j) 0 99
            unfold upd
            by_cases e : j = (s 43 3).toNatClampNeg
            · rw [if_pos e, if_pos e, if_pos e]
              exact ⟨⟨⟨by omega, by omega⟩, ⟨by omega, by omega⟩, t3⟩, ⟨by omega, by omega⟩⟩
            · rw [if_neg e, if_neg e, if_neg e]
              have : ¬ j = (s 43 3).toInt.toNat := e
              exact hp j (by omega)
          · have hj : (j : Int) < (s 43 3 + 1).toInt := hj
            rw [add1 bp (by decide)] at hj
            show (upd (s 44) (s 43 3).toNatClampNeg x j).toInt < (s 25 2).toInt ∧ (upd (s 45) (s 43 3).toNatClampNeg y j).toInt < (s 25 2).toInt
            unfold upd
            by_cases e : j = (s 43 3).toNatClampNeg
            · rw [if_pos e, if_pos e]
              exact ⟨x2, y2⟩
            · rw [if_neg e, if_neg e]
              have : ¬ j = (s 43 3).toInt.toNat := e
              exact (J_X hJ).1 j (by omega)
theorem hasD {s : mSt} (h : JD s) (x : Int32) : sp_has_43 s x = rI (wb x 0 (s 43 3 - 1)) s := by
  have : sp_has_43 s x = rI (if x < 0 then 0 else if s 43 3 ≤ x then 0 else 1) s := by
    rw [sp_has_43_eq]
    split
    · rfl
    · split <;> rfl
  rw [this, has_wb h.1.2 (by decide)]
theorem moD {s : mSt} (h : JD s) (x : Int32) : mo_isDemand s x = rI (wb x 0 (s 43 3 - 1)) s := by
  rw [mo_isDemand_eq, mw0, bI_rI, bz_wb, gd_t, h.1.1]
theorem c_much : CS2 J LL_much mo_much := by
  intro s x y hJ
  obtain ⟨hN, hB, hD, hF, hP, hR⟩ := id hJ
  obtain ⟨⟨ed, bd'⟩, ⟨p1, p2, p3⟩, hd⟩ := id hD
  by_cases h1 : wb x 0 (s 43 3 - 1) = 0
  · exact ⟨-1, s, s, by rw [LL_much_eq, hasD hD, bI_rI, if_pos h1], by rw [mo_much_eq, moD hD, bI_rI, if_pos h1], hJ⟩
  · by_cases h2 : wb y 0 99 = 0
    · exact ⟨-1, s, s, by rw [LL_much_eq, hasD hD, bI_rI, if_neg h1, LLw, bI_rI, if_pos h2], by rw [mo_much_eq, moD hD, bI_rI, if_neg h1, mw_0_99, bI_rI, if_pos h2], hJ⟩
    · obtain ⟨x1, x2⟩ := wb_lt bd' (by decide) h1
      have hy := wb_n h2
      have e0 : (0 : Int32).toInt = 0 := rfl
      have e99 : (99 : Int32).toInt = 99 := rfl
      have hb := bd'.2
      have hi : inb x 12 = true := inb_of x1 (by omega)
      refine ⟨s 46 x.toNatClampNeg, wr s 46 x.toNatClampNeg y, wr (wr s 46 x.toNatClampNeg y) 200 x.toNatClampNeg y, by rw [LL_much_eq, hasD hD, bI_rI, if_neg h1, LLw, bI_rI, if_neg h2, hi, gd_t, gd_t], ?_, J_butD (Fr_w rfl rfl (Fr_w rfl rfl Fr_rf)) hJ ⟨⟨ed, bd'⟩, ⟨p1, p2, ?_⟩, fun j hj => ?_⟩ (show JX s from J_X hJ)⟩
      · have h3 : mo_isDemand (wr s 46 x.toNatClampNeg y) x = rI (wb x 0 (s 43 3 - 1)) (wr s 46 x.toNatClampNeg y) := by
          rw [mo_isDemand_eq, mw0, bI_rI, bz_wb, gd_t, show wr s 46 x.toNatClampNeg y 183 27 = s 43 3 from ed]
        rw [mo_much_eq, h3, bI_rI, if_neg h1, mw_0_99, bI_rI, if_neg h2, hi, gd_t, gd_t, show wr s 46 x.toNatClampNeg y 200 = s 46 from p3]
      · show upd (s 200) _ y = upd (s 46) _ y
        rw [p3]
      · have hj : (j : Int) < (s 43 3).toInt := hj
        obtain ⟨k1, k2⟩ := hd j hj
        refine ⟨k1, ?_⟩
        show bd (upd (s 46) x.toNatClampNeg y j) 0 99
        unfold upd
        by_cases e : j = x.toNatClampNeg
        · rw [if_pos e]; exact ⟨by omega, by omega⟩
        · rw [if_neg e]; exact k2
