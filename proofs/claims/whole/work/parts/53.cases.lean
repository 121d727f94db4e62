theorem hasF {s : mSt} (h : JF s) (x : Int32) : fl_has s x = rI (wb x 0 (s 129 3 - 1)) s := by
  have : fl_has s x = rI (if x < 0 then 0 else if s 129 3 ≤ x then 0 else 1) s := by
    rw [fl_has_eq]
    split
    · rfl
    · split <;> rfl
  rw [this, has_wb h.1.2 (by decide)]
theorem moF {s : mSt} (h : JF s) (x : Int32) : mo_isShip s x = rI (wb x 0 (s 129 3 - 1)) s := by
  rw [mo_isShip_eq, mw0, bI_rI, bz_wb, gd_t, h.1.1]
theorem c_shipOf : CS2 J LL_shipOf mo_shipOf := by
  intro s x y hJ
  obtain ⟨hN, hB, hD, hF, hP, hR⟩ := id hJ
  obtain ⟨⟨ef, bf⟩, p1, p2, p3, p4, p5⟩ := id hF
  by_cases h1 : wb x 0 (s 129 3 - 1) = 0
  · exact ⟨-1, s, s, by rw [LL_shipOf_eq, hasF hF, bI_rI, if_pos h1], by rw [mo_shipOf_eq, moF hF, bI_rI, if_pos h1], hJ⟩
  · obtain ⟨x1, x2⟩ := wb_lt bf (by decide) h1
    have hb := bf.2
    have hi : inb x 3 = true := inb_of x1 (by omega)
    suffices h : ∃ v, LL_shipOf s x y = rI v s ∧ mo_shipOf s x y = rI v s by
      obtain ⟨v, g1, g2⟩ := h
      exact ⟨v, s, s, g1, g2, hJ⟩
    rw [LL_shipOf_eq, hasF hF, bI_rI, if_neg h1, mo_shipOf_eq, moF hF, bI_rI, if_neg h1, mw_0_4, bI_rI]
    simp only [hi, gd_t, p1, p2, p3, p4, p5]
    have e0 : (0 : Int32).toInt = 0 := rfl
    have e4 : (4 : Int32).toInt = 4 := rfl
    by_cases h2 : wb y 0 4 = 0
    · have hy := wb_y h2
      have n0 : ¬ y = 0 := fun q => by subst q; omega
      have n1 : ¬ y = 1 := fun q => by subst q; have : (1 : Int32).toInt = 1 := rfl; omega
      have n2 : ¬ y = 2 := fun q => by subst q; have : (2 : Int32).toInt = 2 := rfl; omega
      have n3 : ¬ y = 3 := fun q => by subst q; have : (3 : Int32).toInt = 3 := rfl; omega
      have n4 : ¬ y = 4 := fun q => by subst q; omega
      exact ⟨(-1), (by rw [if_neg n0, if_neg n1, if_neg n2, if_neg n3, if_neg n4]), (by rw [if_pos h2])⟩
    · have hy := wb_n h2
      rw [if_neg h2]
      by_cases n0 : y = 0
      · exact ⟨_, (by rw [if_pos n0]), (by rw [if_pos n0])⟩
      · by_cases n1 : y = 1
        · exact ⟨_, (by rw [if_neg n0, if_pos n1]), (by rw [if_neg n0, if_pos n1])⟩
        · by_cases n2 : y = 2
          · exact ⟨_, (by rw [if_neg n0, if_neg n1, if_pos n2]), (by rw [if_neg n0, if_neg n1, if_pos n2])⟩
          · by_cases n3 : y = 3
            · exact ⟨_, (by rw [if_neg n0, if_neg n1, if_neg n2, if_pos n3]), (by rw [if_neg n0, if_neg n1, if_neg n2, if_pos n3])⟩
            · have n4 : y = 4 := by
                have k : ∀ z : Int32, ¬ y = z → ¬ y.toInt = z.toInt := fun z q r => q (Int32.toInt_inj.mp r)
                have m0 := k 0 n0
                have m1 := k 1 n1
                have m2 := k 2 n2
                have m3 := k 3 n3
                have r1 : (1 : Int32).toInt = 1 := rfl
                have r2 : (2 : Int32).toInt = 2 := rfl
                have r3 : (3 : Int32).toInt = 3 := rfl
                exact Int32.toInt_inj.mp (by omega)
              exact ⟨_, (by rw [if_neg n0, if_neg n1, if_neg n2, if_neg n3, if_pos n4]), (by rw [if_neg n0, if_neg n1, if_neg n2, if_neg n3])⟩
theorem c_ship : CS3 J LL_ship mo_ship := by
  intro s x y z hJ
  obtain ⟨hN, hB, hD, hF, hP, hR⟩ := id hJ
  obtain ⟨⟨ef, bf⟩, p1, p2, p3, p4, p5⟩ := id hF
  obtain ⟨⟨⟨en, bn⟩, -⟩, ⟨r1, r2, -⟩, -⟩ := id hN
  by_cases h1 : wb x 0 (s 25 2 - 1) = 0
  · exact ⟨-1, s, s, by rw [LL_ship_eq, hasL hN, bI_rI, if_pos h1], by rw [mo_ship_eq, moL hN, bI_rI, if_pos h1], hJ⟩
  · by_cases h2 : wb y 0 99 = 0
    · exact ⟨-1, s, s, by rw [LL_ship_eq, hasL hN, bI_rI, if_neg h1, LLw, bI_rI, if_pos h2], by rw [mo_ship_eq, moL hN, bI_rI, if_neg h1, mw_0_99, bI_rI, if_pos h2], hJ⟩
    · by_cases h3 : wb z 0 3 = 0
      · exact ⟨-1, s, s, by rw [LL_ship_eq, hasL hN, bI_rI, if_neg h1, LLw, bI_rI, if_neg h2, LLw, bI_rI, if_pos h3], by rw [mo_ship_eq, moL hN, bI_rI, if_neg h1, mw_0_99, bI_rI, if_neg h2, mw_0_3, bI_rI, if_pos h3], hJ⟩
      · by_cases h4 : s 129 3 = 3
        · have h5 : ¬ s 129 3 < 3 := fun q => ((full bf rfl).mp q) h4
          exact ⟨-3, s, s, by rw [LL_ship_eq, hasL hN, bI_rI, if_neg h1, LLw, bI_rI, if_neg h2, LLw, bI_rI, if_neg h3, fl_add_eq, if_neg h5, bI_rI], by rw [mo_ship_eq, moL hN, bI_rI, if_neg h1, mw_0_99, bI_rI, if_neg h2, mw_0_3, bI_rI, if_neg h3, if_pos (ef.trans h4)], hJ⟩
        · have h5 : s 129 3 < 3 := (full bf rfl).mpr h4
          have e3 : (3 : Int32).toInt = 3 := rfl
          have h6 : (s 129 3).toInt < 3 := by rw [Int32.lt_iff_toInt_lt] at h5; omega
          have b0 := bf.1
          have hi : inb (s 129 3) 3 = true := inb_of bf.1 (by omega)
          obtain ⟨x1, x2⟩ := wb_lt bn (by decide) h1
          have hn8 := bn.2
          have hx : inb x 8 = true := inb_of x1 (by omega)
          have a1 := add1 bf (by decide)
          obtain ⟨g, hg⟩ : ∃ g, g = wr (wr (wr (wr (wr (wr s 130 (s 129 3).toNatClampNeg (s 26 x.toNatClampNeg)) 131 (s 129 3).toNatClampNeg (s 27 x.toNatClampNeg)) 132 (s 129 3).toNatClampNeg y) 133 (s 129 3).toNatClampNeg z) 134 (s 129 3).toNatClampNeg 0) 129 3 (s 129 3 + 1) := ⟨_, rfl⟩
          have gN : JN g := by rw [hg]; exact JN_fr (Fr_w rfl rfl (Fr_w rfl rfl (Fr_w rfl rfl (Fr_w rfl rfl (Fr_w rfl rfl (Fr_w rfl rfl Fr_rf)))))) hN
          have g1 : g 183 49 = s 129 3 := by rw [hg]; exact ef
          have g2 : g 25 2 = s 25 2 := by rw [hg]; rfl
          have g3 : g 184 = s 26 := by rw [hg]; exact r1
          have g4 : g 185 = s 27 := by rw [hg]; exact r2
          refine ⟨s 129 3, g, wr (wr (wr (wr (wr (wr g 216 (s 129 3).toNatClampNeg (s 26 x.toNatClampNeg)) 217 (s 129 3).toNatClampNeg (s 27 x.toNatClampNeg)) 218 (s 129 3).toNatClampNeg y) 219 (s 129 3).toNatClampNeg z) 220 (s 129 3).toNatClampNeg 0) 183 49 (s 129 3 + 1), by rw [LL_ship_eq, hasL hN, bI_rI, if_neg h1, LLw, bI_rI, if_neg h2, LLw, bI_rI, if_neg h3, fl_add_eq, if_pos h5, hx, hi, gd_t, gd_t, gd_t, gd_t, gd_t, gd_t, gd_t, bI_rI, up1, hg], ?_, ?_⟩
          · rw [mo_ship_eq, moL gN, g2, bI_rI, if_neg h1, mw_0_99, bI_rI, if_neg h2, mw_0_3, bI_rI, if_neg h3, g1, if_neg h4, hx, hi, gd_t, gd_t, gd_t, gd_t, gd_t, gd_t, gd_t, up1, g3, g4]
          · subst hg
            refine J_butF (Fr_m rfl rfl (Fr_w rfl rfl (Fr_w rfl rfl (Fr_w rfl rfl (Fr_w rfl rfl (Fr_w rfl rfl (Fr_w rfl rfl (Fr_w rfl rfl (Fr_w rfl rfl (Fr_w rfl rfl (Fr_w rfl rfl (Fr_w rfl rfl Fr_rf)))))))))))) hJ ⟨⟨rfl, ?_⟩, ?_, ?_, ?_, ?_, ?_⟩ (fun j hj => ?_)
            · show bd (s 129 3 + 1) 0 3
              exact ⟨by omega, by omega⟩
            · show upd (s 216) _ _ = upd (s 130) _ _
              rw [p1]
            · show upd (s 217) _ _ = upd (s 131) _ _
              rw [p2]
            · show upd (s 218) _ _ = upd (s 132) _ _
              rw [p3]
            · show upd (s 219) _ _ = upd (s 133) _ _
              rw [p4]
            · show upd (s 220) _ _ = upd (s 134) _ _
              rw [p5]
            · have hj : (j : Int) < (s 129 3 + 1).toInt := hj
              rw [a1] at hj
              have w2 := wb_n h2
              have w3 := wb_n h3
              have r0 : (0 : Int32).toInt = 0 := rfl
              have r99 : (99 : Int32).toInt = 99 := rfl
              show (bd (upd (s 130) (s 129 3).toNatClampNeg (s 26 x.toNatClampNeg) j) 0 99 ∧ bd (upd (s 131) (s 129 3).toNatClampNeg (s 27 x.toNatClampNeg) j) 0 99) ∧ bd (upd (s 132) (s 129 3).toNatClampNeg y j) 0 99 ∧ bd (upd (s 133) (s 129 3).toNatClampNeg z j) 0 3 ∧ 0 ≤ (upd (s 134) (s 129 3).toNatClampNeg 0 j).toInt ∧ 3 * (upd (s 134) (s 129 3).toNatClampNeg 0 j).toInt + 237 * (upd (s 132) (s 129 3).toNatClampNeg y j).toInt ≤ 26460
              unfold upd
              by_cases e : j = (s 129 3).toNatClampNeg
              · rw [if_pos e, if_pos e, if_pos e, if_pos e, if_pos e]
                exact ⟨hN.2.2.1 x.toNatClampNeg, ⟨by omega, by omega⟩, ⟨by omega, by omega⟩, by omega, by omega⟩
              · rw [if_neg e, if_neg e, if_neg e, if_neg e, if_neg e]
                have : ¬ j = (s 129 3).toInt.toNat := e
                exact J_Z hJ j (by omega)
