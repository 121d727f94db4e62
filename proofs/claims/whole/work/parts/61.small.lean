/-! small cases: fault, end, change, cut, echo -/
theorem wb_nn {x n : Int32} {m : Int} (hb : bd n 0 m) (hm : m < 1000000) (h : ¬ wb x 0 (n - 1) = 0) : ∃ i j : Nat, x = nn i ∧ n = nn j ∧ i < j ∧ (j : Int) ≤ m := by
  obtain ⟨x1, x2⟩ := wb_lt hb hm h
  obtain ⟨j, e1, e2, e3, e4⟩ := nn_of hb
  obtain ⟨i, f1, f2, f3, f4⟩ := nn_of (x := x) (b := n.toInt) ⟨x1, by omega⟩
  exact ⟨i, j, f1, e1, by omega, e2⟩
theorem jMin_i {x y : Int32} : (jMin x y).toInt = min x.toInt y.toInt := by
  unfold jMin
  by_cases h : y < x
  · rw [if_pos h]; rw [Int32.lt_iff_toInt_lt] at h; omega
  · rw [if_neg h]; rw [Int32.lt_iff_toInt_lt] at h; omega
theorem jMax_i {x y : Int32} : (jMax x y).toInt = max x.toInt y.toInt := by
  unfold jMax
  by_cases h : x < y
  · rw [if_pos h]; rw [Int32.lt_iff_toInt_lt] at h; omega
  · rw [if_neg h]; rw [Int32.lt_iff_toInt_lt] at h; omega
theorem jAbs_i {x : Int32} (h : -2147483648 < x.toInt) : (0 ≤ x.toInt ∧ (jAbs x).toInt = x.toInt) ∨ (x.toInt < 0 ∧ (jAbs x).toInt = -x.toInt) := by
  unfold jAbs
  have e0 : (0 : Int32).toInt = 0 := rfl
  have q := Int32.toInt_lt x
  by_cases g : 0 ≤ x
  · rw [if_pos g]; rw [Int32.le_iff_toInt_le] at g; exact Or.inl ⟨by omega, rfl⟩
  · rw [if_neg g]; rw [Int32.le_iff_toInt_le] at g
    exact Or.inr ⟨by omega, by rw [i32_sub (by omega) (by omega), e0]; omega⟩
theorem len_bd {s : mSt} (h : JN s) {j : Nat} (hj : (j : Int) < (s 25 5).toInt) : bd (s 34 j) 0 198 := by
  obtain ⟨-, -, hX, hLn⟩ := id h
  obtain ⟨-, -, -, -, -, l8⟩ := hLn j hj
  rw [l8]
  unfold len4
  obtain ⟨⟨a1, a2⟩, ⟨a3, a4⟩⟩ := hX (s 28 j).toNatClampNeg
  obtain ⟨⟨b1, b2⟩, ⟨b3, b4⟩⟩ := hX (s 29 j).toNatClampNeg
  generalize s 26 (s 28 j).toNatClampNeg = p at *
  generalize s 26 (s 29 j).toNatClampNeg = q at *
  generalize s 27 (s 28 j).toNatClampNeg = r at *
  generalize s 27 (s 29 j).toNatClampNeg = u at *
  have e1 : (p - q).toInt = p.toInt - q.toInt := i32_sub (by omega) (by omega)
  have e2 : (r - u).toInt = r.toInt - u.toInt := i32_sub (by omega) (by omega)
  have f1 := jAbs_i (x := p - q) (by omega)
  have f2 := jAbs_i (x := r - u) (by omega)
  have f3 : (jAbs (p - q) + jAbs (r - u)).toInt = (jAbs (p - q)).toInt + (jAbs (r - u)).toInt := i32_add (by omega) (by omega)
  exact ⟨by omega, by omega⟩
theorem c_fault : CS0 J LL_fault mo_fault := fun s hJ => ⟨s 12 3, s, s, LL_fault_eq s, by rw [mo_fault_eq, (J_T hJ).2.1], hJ⟩
theorem c_end : CS1 J LL_end mo_end := by
  intro s x hJ
  obtain ⟨⟨et, bt⟩, ef, er, hb⟩ := id (J_T hJ)
  by_cases h1 : wb x 0 (s 12 2) = 0
  · exact ⟨-1, s, s, by rw [LL_end_eq, rd_keepFirst_eq, LLw, bI_rI, if_pos h1, bI_rI], by rw [mo_end_eq, mw0, et, bI_rI, if_pos h1], hJ⟩
  · have hw := wb_n h1
    have e0 : (0 : Int32).toInt = 0 := rfl
    obtain ⟨b1, b2⟩ := bt
    refine ⟨s 12 2, wr s 12 2 x, wr (wr s 12 2 x) 183 20 x, by rw [LL_end_eq, rd_keepFirst_eq, LLw, bI_rI, if_neg h1, bI_rI], ?_, J_butT (Fr_m rfl rfl (Fr_w rfl rfl Fr_rf)) hJ ⟨⟨rfl, ?_⟩, ef, er, hb⟩⟩
    · rw [mo_end_eq, mw0, show wr s 12 2 x 183 20 = s 12 2 from et, bI_rI, if_neg h1]
      show rI (s 183 20) _ = _
      rw [et]
    · show bd x 0 240
      exact ⟨by omega, by omega⟩
theorem c_change : CS3 J LL_change mo_change := by
  intro s x y z hJ
  have hN := J_N hJ
  obtain ⟨⟨⟨en, bn⟩, ⟨el, bl⟩, hY⟩, ⟨p1, p2, p3, p4, p5, p6, p7, p8⟩, hX, hLn⟩ := id hN
  by_cases h1 : wb x 0 (s 25 5 - 1) = 0
  · exact ⟨-1, s, s, by rw [LL_change_eq, hasN hN, bI_rI, if_pos h1], by rw [mo_change_eq, moN hN, bI_rI, if_pos h1], hJ⟩
  by_cases h2 : wb y 0 20 = 0
  · exact ⟨-1, s, s, by rw [LL_change_eq, hasN hN, bI_rI, if_neg h1, LLw, bI_rI, if_pos h2], by rw [mo_change_eq, moN hN, bI_rI, if_neg h1, mw_0_20, bI_rI, if_pos h2], hJ⟩
  by_cases h3 : wb z 1 8 = 0
  · exact ⟨-1, s, s, by rw [LL_change_eq, hasN hN, bI_rI, if_neg h1, LLw, bI_rI, if_neg h2, LLw, bI_rI, if_pos h3], by rw [mo_change_eq, moN hN, bI_rI, if_neg h1, mw_0_20, bI_rI, if_neg h2, mw_1_8, bI_rI, if_pos h3], hJ⟩
  obtain ⟨x1, x2⟩ := wb_lt bl (by decide) h1
  have hb := bl.2
  have hi : inb x 12 = true := inb_of x1 (by omega)
  have w2 := wb_n h2
  have w3 := wb_n h3
  have r0 : (0 : Int32).toInt = 0 := rfl
  have r1 : (1 : Int32).toInt = 1 := rfl
  have r8 : (8 : Int32).toInt = 8 := rfl
  have r20 : (20 : Int32).toInt = 20 := rfl
  obtain ⟨g, hg⟩ : ∃ g, g = wr (wr s 32 x.toNatClampNeg y) 31 x.toNatClampNeg z := ⟨_, rfl⟩
  have gN : mo_isLine g x = rI (wb x 0 (s 25 5 - 1)) g := by
    rw [mo_isLine_eq, mw0, bI_rI, bz_wb, gd_t, show g 183 3 = s 25 5 by rw [hg]; exact el]
  refine ⟨s 32 x.toNatClampNeg, g, wr (wr g 190 x.toNatClampNeg y) 189 x.toNatClampNeg z, ?_, ?_, ?_⟩
  · rw [LL_change_eq, hasN hN, bI_rI, if_neg h1, LLw, bI_rI, if_neg h2, LLw, bI_rI, if_neg h3, hi, gd_t, gd_t, gd_t, hg]
  · rw [mo_change_eq, gN, bI_rI, if_neg h1, mw_0_20, bI_rI, if_neg h2, mw_1_8, bI_rI, if_neg h3, hi, gd_t, gd_t, gd_t, show g 190 = s 32 by rw [hg]; exact p7]
  · subst hg
    refine J_butN (Fr_w rfl rfl (Fr_w rfl rfl (Fr_w rfl rfl (Fr_w rfl rfl Fr_rf)))) hJ ⟨⟨⟨en, bn⟩, ⟨el, bl⟩, hY⟩, ⟨p1, p2, p3, p4, p5, ?_, ?_, p8⟩, hX, fun j hj => ?_⟩ (show JX s from J_X hJ) (show JY s from J_Y hJ)
    · show upd (s 189) _ _ = upd (s 31) _ _
      rw [p6]
    · show upd (s 190) _ _ = upd (s 32) _ _
      rw [p7]
    · obtain ⟨l1, l2, l3, l4, l5, l6⟩ := hLn j hj
      refine ⟨l1, l2, ?_, ?_, l5, l6⟩
      · show bd (upd (s 31) x.toNatClampNeg z j) 1 8
        unfold upd
        by_cases e : j = x.toNatClampNeg
        · rw [if_pos e]; exact ⟨by omega, by omega⟩
        · rw [if_neg e]; exact l3
      · show bd (upd (s 32) x.toNatClampNeg y j) 0 20
        unfold upd
        by_cases e : j = x.toNatClampNeg
        · rw [if_pos e]; exact ⟨by omega, by omega⟩
        · rw [if_neg e]; exact l4
theorem c_cut : CS2 J LL_cut mo_cut := by
  intro s x y hJ
  have hN := J_N hJ
  obtain ⟨⟨⟨en, bn⟩, ⟨el, bl⟩, hY⟩, hE, hX, hLn⟩ := id hN
  obtain ⟨⟨eh, bh⟩, eb, bb⟩ := id (J_B hJ)
  obtain ⟨⟨q1, q2, q3, q4, q5⟩, hb⟩ := id (J_Y hJ)
  by_cases h1 : wb x 0 (s 25 5 - 1) = 0
  · exact ⟨-1, s, s, by rw [LL_cut_eq, hasN hN, bI_rI, if_pos h1], by rw [mo_cut_eq, moN hN, bI_rI, if_pos h1], hJ⟩
  by_cases h2 : wb y 0 (s 35 1) = 0
  · exact ⟨-1, s, s, by rw [LL_cut_eq, hasN hN, bI_rI, if_neg h1, LLw, bI_rI, if_pos h2], by rw [mo_cut_eq, moN hN, bI_rI, if_neg h1, eh, mw0, bI_rI, if_pos h2], hJ⟩
  by_cases h3 : s 35 2 = 8
  · have h4 : ¬ s 35 2 < 8 := fun q => ((full bb rfl).mp q) h3
    exact ⟨-3, s, s, by rw [LL_cut_eq, hasN hN, bI_rI, if_neg h1, LLw, bI_rI, if_neg h2, br_add_eq, if_neg h4, bI_rI], by rw [mo_cut_eq, moN hN, bI_rI, if_neg h1, eh, mw0, bI_rI, if_neg h2, if_pos (eb.trans h3)], hJ⟩
  have h4 : s 35 2 < 8 := (full bb rfl).mpr h3
  have e8 : (8 : Int32).toInt = 8 := rfl
  have h5 : (s 35 2).toInt < 8 := by rw [Int32.lt_iff_toInt_lt] at h4; omega
  have hi : inb (s 35 2) 8 = true := inb_of bb.1 (by omega)
  obtain ⟨x1, x2⟩ := wb_lt bl (by decide) h1
  have hbl := bl.2
  have hx : inb x 12 = true := inb_of x1 (by omega)
  have w2 := wb_n h2
  have r0 : (0 : Int32).toInt = 0 := rfl
  have a1 := add1 bb (by decide)
  have b0 := bb.1
  have hh := bh.2
  have hh0 := bh.1
  have hlen := len_bd hN (j := x.toNatClampNeg) (show ((x.toInt.toNat : Nat) : Int) < _ by omega)
  obtain ⟨n, hn⟩ : ∃ n, n = (s 35 2).toNatClampNeg := ⟨_, rfl⟩
  have hn' : n = (s 35 2).toInt.toNat := hn
  obtain ⟨g, hg⟩ : ∃ g, g = wr (wr (wr (wr (wr (wr (wr (wr s 36 n x) 37 n y) 38 n (s 35 1)) 39 n 0) 40 n (s 34 x.toNatClampNeg)) 41 n 1000000) 42 n (-1)) 35 2 (s 35 2 + 1) := ⟨_, rfl⟩
  obtain ⟨g', hg'⟩ : ∃ g', g' = wr (wr (wr (wr g 209 n x) 210 n y) 211 n (s 35 1)) 212 n 0 := ⟨_, rfl⟩
  have gN : JN g := by
    rw [hg]
    exact JN_fr (Fr_w rfl rfl (Fr_w rfl rfl (Fr_w rfl rfl (Fr_w rfl rfl (Fr_w rfl rfl (Fr_w rfl rfl (Fr_w rfl rfl (Fr_w rfl rfl Fr_rf)))))))) hN
  have gN' : JN g' := by
    rw [hg']
    exact JN_fr (Fr_w rfl rfl (Fr_w rfl rfl (Fr_w rfl rfl (Fr_w rfl rfl Fr_rf)))) gN
  have k1 : g 183 11 = s 35 1 := by rw [hg]; exact eh
  have k2 : g 183 41 = s 35 2 := by rw [hg]; exact eb
  have k3 : g' 183 41 = s 35 2 := by rw [hg', hg]; exact eb
  have k4 : g' 25 5 = s 25 5 := by rw [hg', hg]; rfl
  have k5 : g' 34 = s 34 := by rw [hg', hg]; rfl
  have k6 : g 25 5 = s 25 5 := by rw [hg]; rfl
  refine ⟨s 35 2, g, wr (wr (wr (wr g' 213 n (s 34 x.toNatClampNeg)) 214 n (-4)) 215 n (-4)) 183 41 (s 35 2 + 1), ?_, ?_, ?_⟩
  · rw [LL_cut_eq, hasN hN, bI_rI, if_neg h1, LLw, bI_rI, if_neg h2, br_add_eq, if_pos h4, hi, gd_t, gd_t, gd_t, gd_t, hx, gd_t, gd_t, gd_t, gd_t, bI_rI, up1, ← hn, hg]
  · rw [mo_cut_eq, moN gN, k6, bI_rI, if_neg h1, k1, mw0, bI_rI, if_neg h2, k2, if_neg h3, hi, gd_t, gd_t, gd_t, gd_t, ← hn, k1, ← hg', lenM gN' x1 (by rw [k4]; exact x2), bI_rI, gd_t, k3, hi, gd_t, gd_t, up1, k5, ← hn]
  · subst hg' hg
    refine J_butB (Fr_m rfl rfl (Fr_w rfl rfl (Fr_w rfl rfl (Fr_w rfl rfl (Fr_w rfl rfl (Fr_w rfl rfl (Fr_w rfl rfl (Fr_w rfl rfl (Fr_w rfl rfl (Fr_w rfl rfl (Fr_w rfl rfl (Fr_w rfl rfl (Fr_w rfl rfl (Fr_w rfl rfl (Fr_w rfl rfl (Fr_w rfl rfl Fr_rf)))))))))))))))) hJ ⟨⟨eh, bh⟩, rfl, ?_⟩ ⟨⟨?_, ?_, ?_, ?_, ?_⟩, fun j hj => ?_⟩
    · show bd (s 35 2 + 1) 0 8
      exact ⟨by omega, by omega⟩
    · show upd (s 209) _ _ = upd (s 36) _ _
      rw [q1]
    · show upd (s 210) _ _ = upd (s 37) _ _
      rw [q2]
    · show upd (s 211) _ _ = upd (s 38) _ _
      rw [q3]
    · show upd (s 212) _ _ = upd (s 39) _ _
      rw [q4]
    · show upd (s 213) _ _ = upd (s 40) _ _
      rw [q5]
    · have hj : (j : Int) < (s 35 2 + 1).toInt := hj
      rw [a1] at hj
      show (bd (upd (s 36) n x j) 0 ((s 25 5).toInt - 1) ∧ bd (upd (s 37) n y j) 0 (s 35 1).toInt ∧ bd (upd (s 38) n (s 35 1) j) 0 999) ∧ (0 ≤ (upd (s 39) n 0 j).toInt ∧ (upd (s 39) n 0 j).toInt ≤ (upd (s 40) n (s 34 x.toNatClampNeg) j).toInt ∧ (upd (s 40) n (s 34 x.toNatClampNeg) j).toInt ≤ (s 34 (upd (s 36) n x j).toNatClampNeg).toInt) ∧ ((upd (s 41) n 1000000 j = 1000000 ∧ upd (s 214) n (-4) j = -4 ∧ upd (s 42) n (-1) j = -1 ∧ upd (s 215) n (-4) j = -4) ∨ (upd (s 214) n (-4) j = upd (s 41) n 1000000 j ∧ bd (upd (s 41) n 1000000 j) 1 9999 ∧ (upd (s 37) n y j).toInt < (upd (s 41) n 1000000 j).toInt ∧ upd (s 215) n (-4) j = upd (s 42) n (-1) j ∧ bd (upd (s 42) n (-1) j) 0 2))
      by_cases e : j = n
      · subst e
        rw [upd_at, upd_at, upd_at, upd_at, upd_at, upd_at, upd_at, upd_at, upd_at]
        exact ⟨⟨⟨x1, by omega⟩, ⟨by omega, by omega⟩, ⟨by omega, by omega⟩⟩, ⟨by omega, by rw [r0]; exact hlen.1, by omega⟩, Or.inl ⟨rfl, rfl, rfl, rfl⟩⟩
      · rw [upd_ne e, upd_ne e, upd_ne e, upd_ne e, upd_ne e, upd_ne e, upd_ne e, upd_ne e, upd_ne e]
        exact hb j (by omega)
theorem hasB {s : mSt} (h : JB s) (x : Int32) : br_has s x = rI (wb x 0 (s 35 2 - 1)) s := by
  have : br_has s x = rI (if x < 0 then 0 else if s 35 2 ≤ x then 0 else 1) s := by
    rw [br_has_eq]
    split
    · rfl
    · split <;> rfl
  rw [this, has_wb h.2.2 (by decide)]
theorem moB {s : mSt} (h : JB s) (x : Int32) : mo_isBreak s x = rI (wb x 0 (s 35 2 - 1)) s := by
  rw [mo_isBreak_eq, mw0, bI_rI, bz_wb, gd_t, h.2.1]
