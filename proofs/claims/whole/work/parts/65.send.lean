/-! the case send -/
def lvB (s : mSt) (j b : Nat) : Bool := !decide ((s 133 j &&& (if s 30 (lnB s b) = 1 then 2 else 1)) = 0)
/-- a ship's leave, and the line's wetness -/
theorem leave_eq {x w : Int32} (hx : bd x 0 3) (hw : bd w 0 1) : (((x >>> (w &&& 31)) &&& 1) = 1) ↔ ¬ ((x &&& (if w = 1 then 2 else 1)) = 0) := by
  obtain ⟨i, e1, e2, -, -⟩ := nn_of hx
  obtain ⟨j, f1, f2, -, -⟩ := nn_of hw
  have hi : i = 0 ∨ i = 1 ∨ i = 2 ∨ i = 3 := by omega
  have hj : j = 0 ∨ j = 1 := by omega
  subst e1 f1
  rcases hi with rfl | rfl | rfl | rfl <;> rcases hj with rfl | rfl <;> decide
section LVS
variable {s : mSt} {j b : Nat}
theorem lvC (h : HB s b) (hj : j < 3) : fl_hasLeave s (nn j) (nn b) = rI (bi (lvB s j b)) s := by
  obtain ⟨h1, h2, h3, h4, -⟩ := h
  have h12 := h2.1.2.1.2.2
  have hl : lnB s b < 12 := by omega
  have k : ∀ t, fl_hasLeave_26 s (nn j) t = rI (bi (!decide ((s 133 j &&& t) = 0))) s := fun t => by
    rw [fl_hasLeave_26_eq, nn_b hj (by decide), gd_t, nn_n (by omega)]
    by_cases c : (s 133 j &&& t) = 0
    · rw [if_pos c, decide_eq_true c]; rfl
    · rw [if_neg c, decide_eq_false c]; rfl
  rw [fl_hasLeave_eq, nn_b h1 (by decide), gd_t, nn_n (by omega), h3, nn_b hl (by decide), gd_t, nn_n (by omega), k, k]
  unfold lvB
  by_cases c : s 30 (lnB s b) = 1
  · rw [if_pos c, if_pos c]
  · rw [if_neg c, if_neg c]
theorem lvM (h : HB s b) (hj : j < 3) (h9 : s 219 = s 133) (hv : bd (s 133 j) 0 3) : mo_mayDo s (nn j) (nn b) = rI (bi (lvB s j b)) s := by
  obtain ⟨h1, h2, h3, h4, -, -, ⟨q1, -⟩, -⟩ := h
  obtain ⟨-, ⟨-, -, -, -, p5, -⟩, -, hLn⟩ := id h2
  have h12 := h2.1.2.1.2.2
  have hl : lnB s b < 12 := by omega
  obtain ⟨-, hw, -⟩ := hLn (lnB s b) h4
  rw [mo_mayDo_eq, nn_b hj (by decide), gd_t, nn_b h1 (by decide), gd_t, nn_n (by omega), nn_n (by omega), q1, h3, nn_b hl (by decide), gd_t, nn_n (by omega), h9, p5]
  have q := leave_eq hv hw
  unfold lvB
  by_cases c : ((s 133 j >>> (s 30 (lnB s b) &&& 31)) &&& 1) = 1
  · rw [if_pos c, decide_eq_false (q.mp c)]; rfl
  · have c2 : (s 133 j &&& (if s 30 (lnB s b) = 1 then 2 else 1)) = 0 := by
      by_cases d : (s 133 j &&& (if s 30 (lnB s b) = 1 then 2 else 1)) = 0
      · exact d
      · exact absurd (q.mpr d) c
    rw [if_neg c, decide_eq_true c2]; rfl
def bgV (s : mSt) (j : Nat) : Int32 := jMax (s 35 1) (s 134 j)
theorem bgC (hj : j < 3) : fl_beginsIn s (nn j) = rI (bgV s j) s := by
  rw [fl_beginsIn_eq, nn_b hj (by decide), gd_t, nn_n (by omega)]
  rfl
theorem bgM {s' : mSt} (hj : j < 3) (h0 : s' 220 = s 134) (h1 : s' 183 11 = s 35 1) : mo_startOf s' (nn j) = rI (bgV s j) s' := by
  rw [mo_startOf_eq, nn_b hj (by decide), gd_t, gd_t, nn_n (by omega), h0, h1]
  unfold bgV jMax
  by_cases c : s 35 1 < s 134 j
  · rw [if_pos c, if_neg (Int32.not_le.mpr c)]
  · rw [if_neg c, if_pos (Int32.not_lt.mp c)]
end LVS
theorem c_send : CS2 J LL_send mo_send := by
  intro s x y hJ
  have hB := J_B hJ
  have hF := J_F hJ
  have hN := J_N hJ
  obtain ⟨⟨eh, bh⟩, eb, bb⟩ := id hB
  obtain ⟨⟨ef, bf⟩, p1, p2, p3, p4, p5⟩ := id hF
  obtain ⟨⟨q1, q2, q3, q4, q5⟩, hy⟩ := id (J_Y hJ)
  by_cases h1 : wb x 0 (s 129 3 - 1) = 0
  · exact ⟨-1, s, s, by rw [LL_send_eq, hasF hF, bI_rI, if_pos h1], by rw [mo_send_eq, moF hF, bI_rI, if_pos h1], hJ⟩
  by_cases h2 : wb y 0 (s 35 2 - 1) = 0
  · exact ⟨-1, s, s, by rw [LL_send_eq, hasF hF, bI_rI, if_neg h1, hasB hB, bI_rI, if_pos h2], by rw [mo_send_eq, moF hF, bI_rI, if_neg h1, moB hB, bI_rI, if_pos h2], hJ⟩
  obtain ⟨j, nj, ex, enj, hjlt, hjle⟩ := wb_nn bf (by decide) h1
  obtain ⟨b, nb', ey, en, hlt, hle⟩ := wb_nn bb (by decide) h2
  obtain ⟨en2, h8, ei⟩ := nbr_ok hJ
  have hbi : (b : Int) < (s 35 2).toInt := by rw [en, nn_i (by omega)]; omega
  have hji : (j : Int) < (s 129 3).toInt := by rw [enj, nn_i (by omega)]; omega
  have hb : b < nbr s := by omega
  have hj3 : j < 3 := by omega
  have hb8 : b < 8 := by omega
  have H := HB_of hJ hb
  obtain ⟨⟨z1, z2⟩, z3, z4, z5, z6⟩ := J_Z hJ j hji
  obtain ⟨⟨c1, c2, c2'⟩, ⟨c3, c4, c5⟩, c6⟩ := hy b hbi
  subst ex ey
  have hx : inb (nn j) 3 = true := nn_b hj3 (by decide)
  have hyb : inb (nn b) 8 = true := nn_b hb8 (by decide)
  have hnj : (nn j).toNatClampNeg = j := nn_n (by omega)
  have hnb : (nn b).toNatClampNeg = b := nn_n (by omega)
  have hO := opC (s := s) hb8
  have hO' := opM hJ hbi
  have bad : ∀ (A : LL_send s (nn j) (nn b) = rI (-2) s) (B : mo_send s (nn j) (nn b) = rI (-2) s), ∃ v s1 s2, LL_send s (nn j) (nn b) = rI v s1 ∧ mo_send s1 (nn j) (nn b) = rI v s2 ∧ J s2 := fun A B => ⟨-2, s, s, A, B, hJ⟩
  cases ho : opB s b with
  | false =>
    rw [ho] at hO hO'
    refine bad ?_ ?_
    · rw [LL_send_eq, hasF hF, bI_rI, if_neg h1, hasB hB, bI_rI, if_neg h2, hO, bI_rI, if_pos bi_f]
    · rw [mo_send_eq, moF hF, bI_rI, if_neg h1, moB hB, bI_rI, if_neg h2, hO', bI_rI, if_pos bi_f]
  | true =>
  rw [ho] at hO hO'
  have ne1 : ¬ bi true = 0 := by decide
  rcases c6 with ⟨d1, d2, d3, d4⟩ | ⟨d1, d2, d3, d4, d5⟩
  · have cH : br_isInHands s (nn b) = rI 0 s := by rw [br_isInHands_eq, hyb, gd_t, hnb, if_pos d3]
    have hL := lvC H hj3
    have hL' := lvM H hj3 p4 z4
    have cMay : fl_mayMend s (nn j) (nn b) = if lvB s j b = true then (if s 132 j < rlV s b then rI 0 s else rI 1 s) else rI 0 s := by
      rw [fl_mayMend_eq, hL, bI_rI, bi_if, hx, gd_t, hnj, rlC hb8, bI_rI]
    cases hl : lvB s j b with
    | false =>
      rw [hl] at hL' cMay
      rw [if_neg (by decide)] at cMay
      refine bad ?_ ?_
      · rw [LL_send_eq, hasF hF, bI_rI, if_neg h1, hasB hB, bI_rI, if_neg h2, hO, bI_rI, if_neg ne1, cH, bI_rI, if_pos rfl, cMay, bI_rI, if_pos rfl]
      · rw [mo_send_eq, moF hF, bI_rI, if_neg h1, moB hB, bI_rI, if_neg h2, hO', bI_rI, if_neg ne1, hyb, gd_t, hnb, if_pos d4, hL', bI_rI, if_pos bi_f]
    | true =>
    rw [hl] at hL' cMay
    rw [if_pos rfl] at cMay
    by_cases hr : s 132 j < rlV s b
    · rw [if_pos hr] at cMay
      refine bad ?_ ?_
      · rw [LL_send_eq, hasF hF, bI_rI, if_neg h1, hasB hB, bI_rI, if_neg h2, hO, bI_rI, if_neg ne1, cH, bI_rI, if_pos rfl, cMay, bI_rI, if_pos rfl]
      · rw [mo_send_eq, moF hF, bI_rI, if_neg h1, moB hB, bI_rI, if_neg h2, hO', bI_rI, if_neg ne1, hyb, gd_t, hnb, if_pos d4, hL', bI_rI, if_neg ne1, hx, gd_t, rlM H, bI_rI, hnj, p3, if_neg (Int32.not_le.mpr hr)]
    · rw [if_neg hr] at cMay
      obtain ⟨D, hD⟩ : ∃ D, D = bgV s j + hrV s b (s 130 j) (s 131 j) := ⟨_, rfl⟩
      obtain ⟨R, hR⟩ : ∃ R, R = s 132 j - rlV s b := ⟨_, rfl⟩
      obtain ⟨X, hX⟩ : ∃ X, X = bxV s b := ⟨_, rfl⟩
      obtain ⟨Y, hY⟩ : ∃ Y, Y = byV s b := ⟨_, rfl⟩
      obtain ⟨g, hg⟩ : ∃ g, g = wr (wr (wr (wr (wr (wr s 132 j R) 130 j X) 131 j Y) 134 j D) 41 b D) 42 b (nn j) := ⟨_, rfl⟩
      have f1 : Fr [25, 26, 27, 28, 29, 30, 31, 32, 33, 34, 184, 185, 186, 187, 188, 189, 190, 191, 36, 39, 40, 2, 192, 209, 212, 213] [0, 3, 10] s (wr s 132 j R) := Fr_w rfl rfl Fr_rf
      have f2 : Fr [25, 26, 27, 28, 29, 30, 31, 32, 33, 34, 184, 185, 186, 187, 188, 189, 190, 191, 36, 39, 40, 2, 192, 209, 212, 213] [0, 3, 10] s (wr (wr s 132 j R) 130 j X) := Fr_w rfl rfl f1
      have cls : LL_send s (nn j) (nn b) = rI D g := by
        have t1 := bxC (HB_fr f1 H)
        rw [(hr_fr (Fr_sub f1 (by decide) (by decide))).2.1, ← hX] at t1
        have t2 := byC (HB_fr f2 H)
        rw [(hr_fr (Fr_sub f2 (by decide) (by decide))).2.2.1, ← hY] at t2
        have : fl_takeInHands s (nn j) (nn b) = rI D g := by
          rw [fl_takeInHands_eq, bgC hj3, bI_rI, hx, gd_t, gd_t, hnj, hrC H, bI_rI, gd_t, rlC hb8, bI_rI, gd_t, ← hR, t1, bI_rI, gd_t, t2, bI_rI, gd_t, gd_t, hyb, gd_t, gd_t, hnb, ← hD, hg]
        rw [LL_send_eq, hasF hF, bI_rI, if_neg h1, hasB hB, bI_rI, if_neg h2, hO, bI_rI, if_neg ne1, cH, bI_rI, if_pos rfl, cMay, bI_rI, if_neg (by decide), this, bI_rI]
      have gF : Fr [25, 26, 27, 28, 29, 30, 31, 32, 33, 34, 184, 185, 186, 187, 188, 189, 190, 191, 36, 39, 40, 2, 192, 209, 212, 213] [0, 3, 10] s g := by
        rw [hg]; exact Fr_w rfl rfl (Fr_w rfl rfl (Fr_w rfl rfl (Fr_w rfl rfl f2)))
      have HG := HB_fr gF H
      obtain ⟨-, v2, v3, v4, v5⟩ := hr_fr (s' := g) (b := b) (Fr_sub gF (by decide) (by decide))
      have gS : mo_isShip g (nn j) = rI (wb (nn j) 0 (s 129 3 - 1)) g := by rw [mo_isShip_eq, mw0, bI_rI, bz_wb, gd_t, show g 183 49 = s 129 3 by rw [hg]; exact ef]
      have gB : mo_isBreak g (nn b) = rI (wb (nn b) 0 (s 35 2 - 1)) g := by rw [mo_isBreak_eq, mw0, bI_rI, bz_wb, gd_t, show g 183 41 = s 35 2 by rw [hg]; exact eb]
      have g14 : g 214 b = -4 := by rw [hg]; exact d2
      have g15 : g 215 b = -4 := by rw [hg]; exact d4
      have g18 : g 218 = s 132 := by rw [hg]; exact p3
      have g16 : g 216 = s 130 := by rw [hg]; exact p1
      have g17 : g 217 = s 131 := by rw [hg]; exact p2
      have gO : mo_isOpen g (nn b) = rI 1 g := by rw [mo_isOpen_eq, hyb, gd_t, hnb, if_pos g14]
      have gL : mo_mayDo g (nn j) (nn b) = rI 1 g := by
        have e133 : g 133 = s 133 := by rw [hg]; rfl
        have := lvM HG hj3 (by rw [e133, hg]; exact p4) (by rw [e133]; exact z4)
        rw [this]
        have : lvB g j b = lvB s j b := by
          unfold lvB lnB
          rw [e133, gF.1 30 (by decide), gF.1 36 (by decide)]
        rw [this, hl]
        rfl
      obtain ⟨g1, hg1⟩ : ∃ g1, g1 = wr (wr g 214 b D) 215 b (nn j) := ⟨_, rfl⟩
      obtain ⟨g2, hg2⟩ : ∃ g2, g2 = wr g1 218 j R := ⟨_, rfl⟩
      obtain ⟨g3, hg3⟩ : ∃ g3, g3 = wr g2 216 j X := ⟨_, rfl⟩
      have F1 : Fr [25, 26, 27, 28, 29, 30, 31, 32, 33, 34, 184, 185, 186, 187, 188, 189, 190, 191, 36, 39, 40, 2, 192, 209, 212, 213] [0, 3, 10] g g1 := by rw [hg1]; exact Fr_w rfl rfl (Fr_w rfl rfl Fr_rf)
      have F2 : Fr [25, 26, 27, 28, 29, 30, 31, 32, 33, 34, 184, 185, 186, 187, 188, 189, 190, 191, 36, 39, 40, 2, 192, 209, 212, 213] [0, 3, 10] g g2 := by rw [hg2]; exact Fr_w rfl rfl F1
      have F3 : Fr [25, 26, 27, 28, 29, 30, 31, 32, 33, 34, 184, 185, 186, 187, 188, 189, 190, 191, 36, 39, 40, 2, 192, 209, 212, 213] [0, 3, 10] g g3 := by rw [hg3]; exact Fr_w rfl rfl F2
      have t1 := rlM (HB_fr F1 HG)
      rw [(hr_fr (Fr_sub F1 (by decide) (by decide))).2.2.2.2, v5] at t1
      have t2 := bxM (HB_fr F2 HG)
      rw [(hr_fr (Fr_sub F2 (by decide) (by decide))).2.1, v2, ← hX, show g2 209 b = g1 209 b by rw [hg2]; rfl, show g2 212 b = g1 212 b by rw [hg2]; rfl] at t2
      have t3 := byM (HB_fr F3 HG)
      rw [(hr_fr (Fr_sub F3 (by decide) (by decide))).2.2.1, v3, ← hY, show g3 209 b = g2 209 b by rw [hg3]; rfl, show g3 212 b = g2 212 b by rw [hg3]; rfl] at t3
      have e3 : g3 214 b = D := by
        rw [hg3, hg2, hg1]
        show upd (g 214) b D b = D
        exact upd_at
      refine ⟨D, g, wr (wr g3 217 j Y) 220 j D, cls, ?_, ?_⟩
      · rw [mo_send_eq, gS, bI_rI, if_neg h1, gB, bI_rI, if_neg h2, gO, bI_rI, if_neg (by decide), hyb, gd_t, hnb, if_pos g15, gL, bI_rI, if_neg (by decide), hx, gd_t, rlM HG, bI_rI, hnj, g18, v5, if_pos (Int32.not_lt.mp hr), bgM (s := s) hj3 (by rw [hg]; exact p5) (by rw [hg]; exact eh), bI_rI, gd_t, gd_t, g16, g17, hrM HG z1 z2, v4, bI_rI, gd_t, gd_t, gd_t, ← hD, ← hg1, t1, bI_rI, gd_t, gd_t, gd_t, g18, ← hR, ← hg2, t2, bI_rI, gd_t, gd_t, gd_t, ← hg3, t3, bI_rI, gd_t, gd_t, gd_t, gd_t, e3]
      · have hbX := bxy_bd H
        have hbH := hr_bd H z1 z2
        have hrl := rl_i H
        rw [Int32.lt_iff_toInt_lt] at hr
        have m1 := jMax_i (x := s 35 1) (y := s 134 j)
        have m2 : (bgV s j).toInt = max (s 35 1).toInt (s 134 j).toInt := m1
        obtain ⟨w1, w2⟩ := hbH
        obtain ⟨w3, w4⟩ := bh
        obtain ⟨w5, w6⟩ := z3
        have iD := i32_add (a := bgV s j) (b := hrV s b (s 130 j) (s 131 j)) (by omega) (by omega)
        have iR := i32_sub (a := s 132 j) (b := rlV s b) (by omega) (by omega)
        rw [← hD] at iD
        rw [← hR] at iR
        have c21 := c2.1
        have c22 := c2.2
        subst hg3 hg2 hg1 hg
        refine J_butG (Fr_w rfl rfl (Fr_w rfl rfl (Fr_w rfl rfl (Fr_w rfl rfl (Fr_w rfl rfl (Fr_w rfl rfl (Fr_w rfl rfl (Fr_w rfl rfl (Fr_w rfl rfl (Fr_w rfl rfl (Fr_w rfl rfl (Fr_w rfl rfl Fr_rf)))))))))))) hJ hB ⟨⟨ef, bf⟩, ?_, ?_, ?_, p4, ?_⟩ (fun i hi => ?_) ⟨⟨q1, q2, q3, q4, q5⟩, fun i hi => ?_⟩
        · show upd (s 216) _ _ = upd (s 130) _ _
          rw [p1]
        · show upd (s 217) _ _ = upd (s 131) _ _
          rw [p2]
        · show upd (s 218) _ _ = upd (s 132) _ _
          rw [p3]
        · show upd (s 220) _ _ = upd (s 134) _ _
          rw [p5]
        · show (bd (upd (s 130) j X i) 0 99 ∧ bd (upd (s 131) j Y i) 0 99) ∧ bd (upd (s 132) j R i) 0 99 ∧ bd (s 133 i) 0 3 ∧ 0 ≤ (upd (s 134) j D i).toInt ∧ 3 * (upd (s 134) j D i).toInt + 237 * (upd (s 132) j R i).toInt ≤ 26460
          by_cases e : i = j
          · subst e
            rw [upd_at, upd_at, upd_at, upd_at, hX, hY]
            exact ⟨hbX, ⟨by omega, by omega⟩, z4, by omega, by omega⟩
          · rw [upd_ne e, upd_ne e, upd_ne e, upd_ne e]
            exact J_Z hJ i hi
        · obtain ⟨k1, k2, k3⟩ := hy i hi
          refine ⟨k1, k2, ?_⟩
          show (upd (s 41) b D i = 1000000 ∧ upd (s 214) b D i = -4 ∧ upd (s 42) b (nn j) i = -1 ∧ upd (s 215) b (nn j) i = -4) ∨ (upd (s 214) b D i = upd (s 41) b D i ∧ bd (upd (s 41) b D i) 1 9999 ∧ (s 37 i).toInt < (upd (s 41) b D i).toInt ∧ upd (s 215) b (nn j) i = upd (s 42) b (nn j) i ∧ bd (upd (s 42) b (nn j) i) 0 2)
          by_cases e : i = b
          · subst e
            rw [upd_at, upd_at, upd_at, upd_at]
            exact Or.inr ⟨rfl, ⟨by omega, by omega⟩, by omega, rfl, nn_bd (by omega) (by omega)⟩
          · rw [upd_ne e, upd_ne e, upd_ne e, upd_ne e]
            exact k3
  · have n1 : ¬ s 42 b = -1 := fun q => by rw [q] at d5; have h := d5.1; exact absurd h (by decide)
    have n4 : ¬ s 215 b = -4 := fun q => by rw [d4] at q; rw [q] at d5; have h := d5.1; exact absurd h (by decide)
    have cH : br_isInHands s (nn b) = rI 1 s := by rw [br_isInHands_eq, hyb, gd_t, hnb, if_neg n1]
    refine bad ?_ ?_
    · rw [LL_send_eq, hasF hF, bI_rI, if_neg h1, hasB hB, bI_rI, if_neg h2, hO, bI_rI, if_neg ne1, cH, bI_rI, if_neg (by decide)]
    · rw [mo_send_eq, moF hF, bI_rI, if_neg h1, moB hB, bI_rI, if_neg h2, hO', bI_rI, if_neg ne1, hyb, gd_t, hnb, if_neg n4]
