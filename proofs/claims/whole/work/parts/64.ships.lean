/-! the cases breakOf, send -/
theorem spot_ok {s : mSt} (hJ : J s) {b : Nat} (hb : b < nbr s) : 0 ≤ (s 39 b).toInt ∧ (s 39 b).toInt ≤ (s 40 b).toInt ∧ (s 40 b).toInt ≤ (s 34 (lnB s b)).toInt := by
  obtain ⟨-, -, ei⟩ := nbr_ok hJ
  exact ((J_Y hJ).2 b (by omega)).2.1
theorem c_breakOf : CS2 J LL_breakOf mo_breakOf := by
  intro s x w hJ
  have hB := J_B hJ
  have hN := J_N hJ
  obtain ⟨⟨eh, bh⟩, eb, bb⟩ := id hB
  obtain ⟨⟨q1, q2, q3, q4, q5⟩, hy⟩ := id (J_Y hJ)
  by_cases h1 : wb x 0 (s 35 2 - 1) = 0
  · exact ⟨-1, s, s, by rw [LL_breakOf_eq, hasB hB, bI_rI, if_pos h1], by rw [mo_breakOf_eq, moB hB, bI_rI, if_pos h1], hJ⟩
  obtain ⟨b, nb', ex, en, hlt, hle⟩ := wb_nn bb (by decide) h1
  obtain ⟨en2, h8, ei⟩ := nbr_ok hJ
  have hbi : (b : Int) < (s 35 2).toInt := by rw [en, nn_i (by omega)]; omega
  have hb : b < nbr s := by omega
  have hx : inb x 8 = true := by rw [ex]; exact nn_b (by omega) (by decide)
  have hxb : x.toNatClampNeg = b := by rw [ex]; exact nn_n (by omega)
  obtain ⟨el, hl, hl12⟩ := lnB_ok hJ hb
  obtain ⟨-, -, ej⟩ := nln_ok hJ
  obtain ⟨c3, c4, c5⟩ := spot_ok hJ hb
  have hli : ((lnB s b : Nat) : Int) < (s 25 5).toInt := by omega
  obtain ⟨-, -, c6⟩ := hy b hbi
  have pX := pxC hN hli (s 39 b)
  have pY := pyC hN hli (s 39 b)
  have pX' := pxM hN hli c3
  have pY' := pyM hN hli c3 (by omega)
  have hO := opC (s := s) (b := b) (by omega)
  have hO' := opM hJ hbi
  rw [← ex] at hO hO'
  by_cases h2 : wb w 0 10 = 0
  · refine ⟨-1, s, s, ?_, by rw [mo_breakOf_eq, moB hB, bI_rI, if_neg h1, mw_0_10, bI_rI, if_pos h2], hJ⟩
    have hne : ∀ k : Int32, wb k 0 10 = 1 → ¬ w = k := fun k hk q => by rw [q, hk] at h2; exact absurd h2 (by decide)
    rw [LL_breakOf_eq, hasB hB, bI_rI, if_neg h1, hx, gd_t, if_neg (hne 0 rfl), if_neg (hne 1 rfl), if_neg (hne 2 rfl), if_neg (hne 3 rfl), if_neg (hne 4 rfl), if_neg (hne 5 rfl), if_neg (hne 6 rfl), if_neg (hne 7 rfl), if_neg (hne 8 rfl), if_neg (hne 9 rfl), if_neg (hne 10 rfl)]
  have key : ∃ v, LL_breakOf s x w = rI v s ∧ mo_breakOf s x w = rI v s := by
    have hH : br_isInHands s x = rI (if s 42 b = -1 then 0 else 1) s := by
      rw [br_isInHands_eq, hx, gd_t, hxb]
      split <;> rfl
    rw [LL_breakOf_eq, hasB hB, bI_rI, if_neg h1, mo_breakOf_eq, moB hB, bI_rI, if_neg h1, mw_0_10, bI_rI, if_neg h2, hx, hxb, gd_t, hH, hO, hO', q1, q2, q3, q4, q5, el, pX, pX', pY, pY']
    simp only [gd_t, bI_rI]
    by_cases k0 : w = 0
    · rw [if_pos k0, if_pos k0]; exact ⟨_, rfl, rfl⟩
    rw [if_neg k0, if_neg k0]
    by_cases k1 : w = 1
    · rw [if_pos k1, if_pos k1]; exact ⟨_, rfl, rfl⟩
    rw [if_neg k1, if_neg k1]
    by_cases k2 : w = 2
    · rw [if_pos k2, if_pos k2]; exact ⟨_, rfl, rfl⟩
    rw [if_neg k2, if_neg k2]
    by_cases k3 : w = 3
    · rw [if_pos k3, if_pos k3]; exact ⟨_, rfl, rfl⟩
    rw [if_neg k3, if_neg k3]
    by_cases k4 : w = 4
    · rw [if_pos k4, if_pos k4]; exact ⟨_, rfl, rfl⟩
    rw [if_neg k4, if_neg k4]
    by_cases k5 : w = 5
    · rw [if_pos k5, if_pos k5]; exact ⟨_, rfl, rfl⟩
    rw [if_neg k5, if_neg k5]
    have hh : ((if s 42 b = -1 then (0 : Int32) else 1) = 0 ∧ s 214 b = -4 ∧ s 215 b = -4) ∨ (¬ (if s 42 b = -1 then (0 : Int32) else 1) = 0 ∧ s 214 b = s 41 b ∧ s 215 b = s 42 b) := by
      rcases c6 with ⟨d1, d2, d3, d4⟩ | ⟨d1, d2, d3, d4, d5⟩
      · exact Or.inl ⟨by rw [if_pos d3], d2, d4⟩
      · have n1 : ¬ s 42 b = -1 := fun q => by rw [q] at d5; have h := d5.1; exact absurd h (by decide)
        exact Or.inr ⟨by rw [if_neg n1]; decide, d1, d4⟩
    by_cases k6 : w = 6
    · rw [if_pos k6, if_pos k6]
      rcases hh with ⟨a1, a2, a3⟩ | ⟨a1, a2, a3⟩
      · rw [if_pos a1, a2]; exact ⟨_, rfl, rfl⟩
      · rw [if_neg a1, a2]; exact ⟨_, rfl, rfl⟩
    rw [if_neg k6, if_neg k6]
    by_cases k7 : w = 7
    · rw [if_pos k7, if_pos k7]
      rcases hh with ⟨a1, a2, a3⟩ | ⟨a1, a2, a3⟩
      · rw [if_pos a1, a3]; exact ⟨_, rfl, rfl⟩
      · rw [if_neg a1, a3]; exact ⟨_, rfl, rfl⟩
    rw [if_neg k7, if_neg k7]
    by_cases k8 : w = 8
    · rw [if_pos k8, if_pos k8]
      by_cases a : bi (opB s b) = 0
      · rw [if_pos a]; exact ⟨_, rfl, rfl⟩
      · rw [if_neg a]; exact ⟨_, rfl, rfl⟩
    rw [if_neg k8, if_neg k8]
    by_cases k9 : w = 9
    · rw [if_pos k9, if_pos k9]; exact ⟨_, rfl, rfl⟩
    rw [if_neg k9, if_neg k9]
    have k10 : w = 10 := by
      have hw := wb_n h2
      have f0 : (0 : Int32).toInt = 0 := rfl
      have f1 : (1 : Int32).toInt = 1 := rfl
      have f2 : (2 : Int32).toInt = 2 := rfl
      have f3 : (3 : Int32).toInt = 3 := rfl
      have f4 : (4 : Int32).toInt = 4 := rfl
      have f5 : (5 : Int32).toInt = 5 := rfl
      have f6 : (6 : Int32).toInt = 6 := rfl
      have f7 : (7 : Int32).toInt = 7 := rfl
      have f8 : (8 : Int32).toInt = 8 := rfl
      have f9 : (9 : Int32).toInt = 9 := rfl
      have f10 : (10 : Int32).toInt = 10 := rfl
      rw [← Int32.toInt_inj] at k0 k1 k2 k3 k4 k5 k6 k7 k8 k9
      exact Int32.toInt_inj.mp (by omega)
    rw [if_pos k10]
    exact ⟨_, rfl, rfl⟩
  obtain ⟨v, k1, k2⟩ := key
  exact ⟨v, s, s, k1, k2, hJ⟩
/-! hours -/
def bxV (s : mSt) (b : Nat) : Int32 := pxV s (lnB s b) (s 39 b)
def byV (s : mSt) (b : Nat) : Int32 := pyV s (lnB s b) (s 39 b)
def hrV (s : mSt) (b : Nat) (x y : Int32) : Int32 := (((((jAbs (bxV s b - x)) + (jAbs (byV s b - y))) + s 2 7) - 1) / s 2 7) + s 2 6
def rlV (s : mSt) (b : Nat) : Int32 := (3 + s 40 b) - s 39 b
/-- what of a state the ships' sums need -/
def HB (s : mSt) (b : Nat) : Prop := b < 8 ∧ JN s ∧ s 36 b = nn (lnB s b) ∧ ((lnB s b : Nat) : Int) < (s 25 5).toInt ∧ (0 ≤ (s 39 b).toInt ∧ (s 39 b).toInt ≤ (s 40 b).toInt ∧ (s 40 b).toInt ≤ (s 34 (lnB s b)).toInt) ∧ (bd (s 2 6) 1 20 ∧ bd (s 2 7) 1 20) ∧ (s 209 = s 36 ∧ s 212 = s 39 ∧ s 213 = s 40) ∧ s 192 = s 2
theorem HB_of {s : mSt} (hJ : J s) {b : Nat} (hb : b < nbr s) : HB s b := by
  obtain ⟨en2, h8, ei⟩ := nbr_ok hJ
  obtain ⟨el, hl, hl12⟩ := lnB_ok hJ hb
  obtain ⟨-, -, ej⟩ := nln_ok hJ
  obtain ⟨⟨q1, q2, q3, q4, q5⟩, -⟩ := id (J_Y hJ)
  obtain ⟨⟨-, -, -, -, -, -, r6, r7⟩, -⟩ := id (J_U hJ)
  exact ⟨by omega, J_N hJ, el, by omega, spot_ok hJ hb, ⟨r6, r7⟩, ⟨q1, q4, q5⟩, (J_R hJ).2.1⟩
theorem HB_fr {s s' : mSt} {b : Nat} (h : Fr [25, 26, 27, 28, 29, 30, 31, 32, 33, 34, 184, 185, 186, 187, 188, 189, 190, 191, 36, 39, 40, 2, 192, 209, 212, 213] [0, 3, 10] s s') (hB : HB s b) : HB s' b := by
  obtain ⟨h1, h2, h3, h4, h5, h6, h7, h8⟩ := id hB
  refine ⟨h1, JN_fr (Fr_sub h (by decide) (by decide)) h2, ?_, ?_, ?_, ?_, ?_, ?_⟩
  · show s' 36 b = nn (s' 36 b).toInt.toNat
    rw [h.1 36 (by decide)]; exact h3
  · show (((s' 36 b).toInt.toNat : Nat) : Int) < _
    rw [h.1 36 (by decide), h.1 25 (by decide)]; exact h4
  · show 0 ≤ (s' 39 b).toInt ∧ (s' 39 b).toInt ≤ (s' 40 b).toInt ∧ (s' 40 b).toInt ≤ (s' 34 (s' 36 b).toInt.toNat).toInt
    rw [h.1 36 (by decide), h.1 34 (by decide), h.1 39 (by decide), h.1 40 (by decide)]; exact h5
  · rw [h.1 2 (by decide)]; exact h6
  · rw [h.1 36 (by decide), h.1 39 (by decide), h.1 40 (by decide), h.1 209 (by decide), h.1 212 (by decide), h.1 213 (by decide)]; exact h7
  · rw [h.1 2 (by decide), h.1 192 (by decide)]; exact h8
theorem hr_fr {s s' : mSt} {b : Nat} (h : Fr [26, 27, 28, 29, 36, 39, 40, 2] [] s s') : lnB s' b = lnB s b ∧ bxV s' b = bxV s b ∧ byV s' b = byV s b ∧ (∀ x y, hrV s' b x y = hrV s b x y) ∧ rlV s' b = rlV s b := by
  have e1 : lnB s' b = lnB s b := by unfold lnB; rw [h.1 36 (by decide)]
  have e2 : bxV s' b = bxV s b := by
    unfold bxV
    rw [e1, h.1 39 (by decide), px_eq (h.1 26 (by decide)) (h.1 28 (by decide)) (h.1 29 (by decide))]
  have e3 : byV s' b = byV s b := by
    unfold byV
    rw [e1, h.1 39 (by decide), py_eq (h.1 26 (by decide)) (h.1 27 (by decide)) (h.1 28 (by decide)) (h.1 29 (by decide))]
  refine ⟨e1, e2, e3, fun x y => ?_, ?_⟩
  · unfold hrV
    rw [e2, e3, h.1 2 (by decide)]
  · unfold rlV
    rw [h.1 39 (by decide), h.1 40 (by decide)]
section HRS
variable {s : mSt} {b : Nat}
theorem bxC (h : HB s b) : fl_placeX s (nn b) = rI (bxV s b) s := by
  obtain ⟨h1, h2, h3, h4, -⟩ := h
  rw [fl_placeX_eq, nn_b h1 (by decide), gd_t, gd_t, nn_n (by omega), h3, pxC h2 h4, bI_rI]
  rfl
theorem byC (h : HB s b) : fl_placeY s (nn b) = rI (byV s b) s := by
  obtain ⟨h1, h2, h3, h4, -⟩ := h
  rw [fl_placeY_eq, nn_b h1 (by decide), gd_t, gd_t, nn_n (by omega), h3, pyC h2 h4, bI_rI]
  rfl
theorem bxM (h : HB s b) : mo_xAt s (s 209 b) (s 212 b) = rI (bxV s b) s := by
  obtain ⟨h1, h2, h3, h4, ⟨h5, -⟩, -, ⟨q1, q2, q3⟩, -⟩ := h
  rw [q1, q2, h3, pxM h2 h4 h5]
  rfl
theorem byM (h : HB s b) : mo_yAt s (s 209 b) (s 212 b) = rI (byV s b) s := by
  obtain ⟨h1, h2, h3, h4, ⟨h5, h6, h7⟩, -, ⟨q1, q2, q3⟩, -⟩ := h
  rw [q1, q2, h3, pyM h2 h4 h5 (by omega)]
  rfl
theorem bxy_bd (h : HB s b) : bd (bxV s b) 0 99 ∧ bd (byV s b) 0 99 := by
  obtain ⟨h1, h2, h3, h4, ⟨h5, h6, h7⟩, -⟩ := h
  exact pxy_bd h2 h4 h5 (by omega)
theorem sail1 (h : HB s b) : jMax 1 (s 2 7) = s 2 7 := by
  obtain ⟨-, -, -, -, -, ⟨-, r⟩, -⟩ := h
  have m := jMax_i (x := 1) (y := s 2 7)
  have e1 : (1 : Int32).toInt = 1 := rfl
  have := r.1
  exact Int32.toInt_inj.mp (by omega)
theorem sail0 (h : HB s b) : (!(decide (s 2 7 = (0 : Int32)))) = true := by
  obtain ⟨-, -, -, -, -, ⟨-, r⟩, -⟩ := h
  have : ¬ s 2 7 = 0 := fun q => by rw [q] at r; have h := r.1; exact absurd h (by decide)
  rw [decide_eq_false this]
  rfl
theorem hrC (h : HB s b) (x y : Int32) : fl_hoursTo s (nn b) x y = rI (hrV s b x y) s := by
  rw [fl_hoursTo_eq, bxC h, bI_rI, byC h, bI_rI, sail1 h, sail0 h, gd_t]
  rfl
theorem jAbs_sw {x y : Int32} (hx : bd x 0 99) (hy : bd y 0 99) : jAbs (x - y) = jAbs (y - x) := by
  obtain ⟨a1, a2⟩ := hx
  obtain ⟨b1, b2⟩ := hy
  have e1 := i32_sub (a := x) (b := y) (by omega) (by omega)
  have e2 := i32_sub (a := y) (b := x) (by omega) (by omega)
  have f1 := jAbs_i (x := x - y) (by omega)
  have f2 := jAbs_i (x := y - x) (by omega)
  exact Int32.toInt_inj.mp (by omega)
theorem hrM (h : HB s b) {x y : Int32} (hx : bd x 0 99) (hy : bd y 0 99) : mo_hoursTo s x y (nn b) = rI (hrV s b x y) s := by
  obtain ⟨k1, k2⟩ := bxy_bd h
  have h1 := h.1
  have e := h.2.2.2.2.2.2.2
  have z := sail0 h
  rw [mo_hoursTo_eq, nn_b h1 (by decide), gd_t, gd_t, nn_n (by omega), bxM h, bI_rI, pl1, bI_rI, gd_t, gd_t, byM h, bI_rI, pl1, bI_rI, e, z, gd_t, jAbs_sw hx k1, jAbs_sw hy k2]
  rfl
theorem hr_bd (h : HB s b) {x y : Int32} (hx : bd x 0 99) (hy : bd y 0 99) : bd (hrV s b x y) 1 237 := by
  obtain ⟨⟨a1, a2⟩, ⟨a3, a4⟩⟩ := bxy_bd h
  obtain ⟨-, -, -, -, -, ⟨⟨r1, r2⟩, ⟨r3, r4⟩⟩, -⟩ := id h
  obtain ⟨b1, b2⟩ := hx
  obtain ⟨b3, b4⟩ := hy
  have e1 := i32_sub (a := bxV s b) (b := x) (by omega) (by omega)
  have e2 := i32_sub (a := byV s b) (b := y) (by omega) (by omega)
  have f1 := jAbs_i (x := bxV s b - x) (by omega)
  have f2 := jAbs_i (x := byV s b - y) (by omega)
  have u1 : (1 : Int32).toInt = 1 := rfl
  unfold hrV
  generalize jAbs (bxV s b - x) = p at *
  generalize jAbs (byV s b - y) = q at *
  have g1 := i32_add (a := p) (b := q) (by omega) (by omega)
  have g2 := i32_add (a := p + q) (b := s 2 7) (by omega) (by omega)
  have g3 := i32_sub (a := p + q + s 2 7) (b := 1) (by omega) (by omega)
  have hne : s 2 7 ≠ -1 := fun c => by rw [c] at r3; exact absurd r3 (by decide)
  have g4 := Int32.toInt_div_of_ne_right (p + q + s 2 7 - 1) (s 2 7) hne
  rw [Int.tdiv_eq_ediv_of_nonneg (by omega)] at g4
  have g5 : 0 ≤ (p + q + s 2 7 - 1).toInt / (s 2 7).toInt := Int.ediv_nonneg (by omega) (by omega)
  have g6 : (p + q + s 2 7 - 1).toInt / (s 2 7).toInt ≤ (p + q + s 2 7 - 1).toInt := Int.ediv_le_self _ (by omega)
  have g7 := i32_add (a := (p + q + s 2 7 - 1) / s 2 7) (b := s 2 6) (by omega) (by omega)
  exact ⟨by omega, by omega⟩
theorem rlC (h : b < 8) : fl_reelFor s (nn b) = rI (rlV s b) s := by
  rw [fl_reelFor_eq, nn_b h (by decide), gd_t, gd_t, nn_n (by omega)]
  rfl
theorem rlM (h : HB s b) : mo_takesReel s (nn b) = rI (rlV s b) s := by
  obtain ⟨h1, -, -, -, -, -, ⟨q1, q2, q3⟩, -⟩ := h
  rw [mo_takesReel_eq, nn_b h1 (by decide), gd_t, gd_t, nn_n (by omega), q2, q3]
  rfl
theorem rl_i (h : HB s b) : (rlV s b).toInt = 3 + (s 40 b).toInt - (s 39 b).toInt ∧ 3 ≤ (rlV s b).toInt ∧ (rlV s b).toInt ≤ 201 := by
  obtain ⟨h1, h2, h3, h4, ⟨h5, h6, h7⟩, -⟩ := h
  have hl := len_bd h2 h4
  have := hl.2
  have u3 : (3 : Int32).toInt = 3 := rfl
  have g1 := i32_add (a := 3) (b := s 40 b) (by omega) (by omega)
  have g2 := i32_sub (a := 3 + s 40 b) (b := s 39 b) (by omega) (by omega)
  unfold rlV
  omega
end HRS
