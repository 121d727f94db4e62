/-! RULES: the class reads a rent (gen98zc.py) -/
/-- near: only the reader's cell and row r changed -/
def CM (r : Nat) (s s' : mSt) : Prop := s' 12 9 = s 12 9 ∧ ∀ c, c ≠ 12 → c ≠ 17 + r → s' c = s c
section RNC
variable {T : Nat → Int32} {n p r : Nat} {s : mSt}
theorem CM_tr {s1 s2 : mSt} (h : CM r s s1) (h' : CM r s1 s2) : CM r s s2 := ⟨h'.1.trans h.1, fun c h1 h2 => (h'.2 c h1 h2).trans (h.2 c h1 h2)⟩
theorem CM_of {s1 : mSt} (h9 : s1 12 9 = s 12 9) (h : ∀ c, c ≠ 12 → s1 c = s c) : CM r s s1 := ⟨h9, fun c h1 _ => h c h1⟩
theorem u_lt {f g : Nat → Int32} {x j : Nat} {w : Int32} (h : g = upd f x w) (hj : j < x) : g j = f j := by rw [h, upd_ne (by omega)]
theorem u_at {f g : Nat → Int32} {x : Nat} {w : Int32} (h : g = upd f x w) : g x = w := by rw [h, upd_at]
theorem rentC (hn : n ≤ 240) (hp : p ≤ n) (h : CG T n p s) (hr : r < 8) (h14 : s 14 2 = nn r) : ∃ v s', rd_readRent s = rI v s' ∧ s' 12 9 = s 12 9 ∧ (∀ c, c ≠ 12 → c ≠ 14 → c ≠ 17 + r → s' c = s c) ∧ (∀ k q, rentS T n p = Sum.inl (k, q) → v = 0 ∧ CF k q s') ∧ (∀ w p', rentS T n p = Sum.inr (w, p') → v = 1 ∧ CG T n p' s' ∧ s' 14 2 = nn (r + 1) ∧ ∀ j, j < 6 → s' (17 + r) j = w j) := by
  have bad : ∀ k q (s1 : mSt), CM r s s1 → CF k q s1 → rentS T n p = Sum.inl (k, q) → ∃ v s', rd_readRent_147 s1 0 = rI v s' ∧ s' 12 9 = s 12 9 ∧ (∀ c, c ≠ 12 → c ≠ 14 → c ≠ 17 + r → s' c = s c) ∧ (∀ k q, rentS T n p = Sum.inl (k, q) → v = 0 ∧ CF k q s') ∧ (∀ w p', rentS T n p = Sum.inr (w, p') → v = 1 ∧ CG T n p' s' ∧ s' 14 2 = nn (r + 1) ∧ ∀ j, j < 6 → s' (17 + r) j = w j) := fun k q s1 hm hf z => by
    rw [rd_readRent_147_eq, if_pos rfl, gz0, z]
    exact ⟨0, s1, rfl, hm.1, fun c h1 _ h3 => hm.2 c h1 h3, (fun k q hq => by cases hq; exact ⟨rfl, hf⟩), (fun w p' hq => by cases hq)⟩
  rw [rd_readRent_eq, h14, if_pos (show nn r < 8 from ylt (j := 8) hr (by decide)), nn_b (i := r) (n := 8) hr (by decide), gd_t, nn_n (by omega)]
  obtain ⟨v1, s1, a1, n1, c1, i1, o1⟩ := houseC hn hp h hr
  rw [a1, bI_rI]
  have m1 : CM r s s1 := ⟨n1, c1⟩
  rcases e1 : houseS T n p with ⟨k, q⟩ | ⟨w1, p1⟩
  · obtain ⟨z, f⟩ := i1 k q e1
    rw [z, if_pos rfl]
    exact bad k q s1 m1 f (bS_l e1)
  obtain ⟨z1, g1, u1⟩ := o1 w1 p1 e1
  have l1 := (houseS_r hp e1).2.1
  rw [z1, if_neg (by decide)]
  obtain ⟨v2, s2, a2, n2, c2, i2, o2⟩ := numC16 hn l1 g1 hr (x := 1) (by omega) 0 11
  have a2 : rd_readNumber_r16 s1 r 1 0 11 = rI v2 s2 := a2
  rw [a2, bI_rI]
  have m2 : CM r s s2 := CM_tr m1 ⟨n2, c2⟩
  rcases e2 : numS T n p1 0 11 with ⟨k, q⟩ | ⟨w2, p2⟩
  · obtain ⟨z, f⟩ := i2 k q e2
    rw [z, if_pos rfl]
    exact bad k q s2 m2 f ((bS_r e1).trans (bS_l e2))
  obtain ⟨z2, g2, u2⟩ := o2 w2 p2 e2
  have l2 := (numS_r l1 e2).2.1
  rw [z2, if_neg (by decide)]
  obtain ⟨v3, s3, a3, n3, c3, i3, o3⟩ := numC16 hn l2 g2 hr (x := 2) (by omega) 1 8
  have a3 : rd_readNumber_r16 s2 r 2 1 8 = rI v3 s3 := a3
  rw [a3, bI_rI]
  have m3 : CM r s s3 := CM_tr m2 ⟨n3, c3⟩
  rcases e3 : numS T n p2 1 8 with ⟨k, q⟩ | ⟨w3, p3⟩
  · obtain ⟨z, f⟩ := i3 k q e3
    rw [z, if_pos rfl]
    exact bad k q s3 m3 f ((bS_r e1).trans ((bS_r e2).trans (bS_l e3)))
  obtain ⟨z3, g3, u3⟩ := o3 w3 p3 e3
  have l3 := (numS_r l2 e3).2.1
  rw [z3, if_neg (by decide)]
  obtain ⟨v4, s4, a4, n4, c4, i4, o4⟩ := word241 hn l3 g3
  rw [a4, bI_rI]
  have m4 : CM r s s4 := CM_tr m3 (CM_of n4 c4)
  rcases e4 : wordS T n p3 9 with ⟨k, q⟩ | p4
  · obtain ⟨z, f⟩ := i4 k q e4
    rw [z, if_pos rfl]
    exact bad k q s4 m4 f ((bS_r e1).trans ((bS_r e2).trans ((bS_r e3).trans (bS_l e4))))
  obtain ⟨z4, g4⟩ := o4 p4 e4
  have l4 := (wordS_r l3 e4).2
  rw [z4, if_neg (by decide)]
  obtain ⟨v5, s5, a5, n5, c5, i5, o5⟩ := numC16 hn l4 g4 hr (x := 3) (by omega) 0 998
  have a5 : rd_readNumber_r16 s4 r 3 0 998 = rI v5 s5 := a5
  rw [a5, bI_rI]
  have m5 : CM r s s5 := CM_tr m4 ⟨n5, c5⟩
  rcases e5 : numS T n p4 0 998 with ⟨k, q⟩ | ⟨w5, p5⟩
  · obtain ⟨z, f⟩ := i5 k q e5
    rw [z, if_pos rfl]
    exact bad k q s5 m5 f ((bS_r e1).trans ((bS_r e2).trans ((bS_r e3).trans ((bS_r e4).trans (bS_l e5)))))
  obtain ⟨z5, g5, u5⟩ := o5 w5 p5 e5
  have l5 := (numS_r l4 e5).2.1
  rw [z5, if_neg (by decide)]
  obtain ⟨v6, s6, a6, n6, c6, i6, o6⟩ := word242 hn l5 g5
  rw [a6, bI_rI]
  have m6 : CM r s s6 := CM_tr m5 (CM_of n6 c6)
  rcases e6 : wordS T n p5 10 with ⟨k, q⟩ | p6
  · obtain ⟨z, f⟩ := i6 k q e6
    rw [z, if_pos rfl]
    exact bad k q s6 m6 f ((bS_r e1).trans ((bS_r e2).trans ((bS_r e3).trans ((bS_r e4).trans ((bS_r e5).trans (bS_l e6))))))
  obtain ⟨z6, g6⟩ := o6 p6 e6
  have l6 := (wordS_r l5 e6).2
  rw [z6, if_neg (by decide)]
  obtain ⟨v7, s7, a7, n7, c7, i7, o7⟩ := numC16 hn l6 g6 hr (x := 4) (by omega) (w5 + 1) 999
  have a7 : rd_readNumber_r16 s6 r 4 (w5 + 1) 999 = rI v7 s7 := a7
  rw [show s6 (17 + r) 3 = w5 by rw [(c6 (17 + r) (by omega))]; exact u_at u5, blt_t hr, gd_t, show inb 3 6 = true from nn_b (i := 3) (n := 6) (by omega) (by decide), gd_t]
  rw [a7, bI_rI]
  have m7 : CM r s s7 := CM_tr m6 ⟨n7, c7⟩
  rcases e7 : numS T n p6 (w5 + 1) 999 with ⟨k, q⟩ | ⟨w7, p7⟩
  · obtain ⟨z, f⟩ := i7 k q e7
    rw [z, if_pos rfl]
    exact bad k q s7 m7 f ((bS_r e1).trans ((bS_r e2).trans ((bS_r e3).trans ((bS_r e4).trans ((bS_r e5).trans ((bS_r e6).trans (bS_l e7)))))))
  obtain ⟨z7, g7, u7⟩ := o7 w7 p7 e7
  have l7 := (numS_r l6 e7).2.1
  rw [z7, if_neg (by decide)]
  obtain ⟨v8, s8, a8, n8, c8, i8, o8⟩ := word243 hn l7 g7
  rw [a8, bI_rI]
  have m8 : CM r s s8 := CM_tr m7 (CM_of n8 c8)
  rcases e8 : wordS T n p7 11 with ⟨k, q⟩ | p8
  · obtain ⟨z, f⟩ := i8 k q e8
    rw [z, if_pos rfl]
    exact bad k q s8 m8 f ((bS_r e1).trans ((bS_r e2).trans ((bS_r e3).trans ((bS_r e4).trans ((bS_r e5).trans ((bS_r e6).trans ((bS_r e7).trans (bS_l e8))))))))
  obtain ⟨z8, g8⟩ := o8 p8 e8
  have l8 := (wordS_r l7 e8).2
  rw [z8, if_neg (by decide)]
  obtain ⟨v9, s9, a9, n9, c9, i9, o9⟩ := numC16 hn l8 g8 hr (x := 5) (by omega) 0 99
  have a9 : rd_readNumber_r16 s8 r 5 0 99 = rI v9 s9 := a9
  rw [a9, bI_rI]
  have m9 : CM r s s9 := CM_tr m8 ⟨n9, c9⟩
  rcases e9 : numS T n p8 0 99 with ⟨k, q⟩ | ⟨w9, p9⟩
  · obtain ⟨z, f⟩ := i9 k q e9
    rw [z, if_pos rfl]
    exact bad k q s9 m9 f ((bS_r e1).trans ((bS_r e2).trans ((bS_r e3).trans ((bS_r e4).trans ((bS_r e5).trans ((bS_r e6).trans ((bS_r e7).trans ((bS_r e8).trans (bS_l e9)))))))))
  obtain ⟨z9, g9, u9⟩ := o9 w9 p9 e9
  have l9 := (numS_r l8 e9).2.1
  rw [z9, if_neg (by decide)]
  obtain ⟨v10, s10, a10, n10, c10, i10, o10⟩ := stopC hn l9 g9
  rw [a10, bI_rI]
  have m10 : CM r s s10 := CM_tr m9 (CM_of n10 c10)
  rcases e10 : stopS T n p9 with ⟨k, q⟩ | p10
  · obtain ⟨z, f⟩ := i10 k q e10
    rw [z, if_pos rfl]
    exact bad k q s10 m10 f ((bS_r e1).trans ((bS_r e2).trans ((bS_r e3).trans ((bS_r e4).trans ((bS_r e5).trans ((bS_r e6).trans ((bS_r e7).trans ((bS_r e8).trans ((bS_r e9).trans (bS_l e10))))))))))
  obtain ⟨z10, g10⟩ := o10 p10 e10
  have l10 := (stopS_r l9 e10).2
  rw [z10, if_neg (by decide)]
  have z : rentS T n p = Sum.inr (w6 w1 w2 w3 w5 w7 w9, p10) := (bS_r e1).trans ((bS_r e2).trans ((bS_r e3).trans ((bS_r e4).trans ((bS_r e5).trans ((bS_r e6).trans ((bS_r e7).trans ((bS_r e8).trans ((bS_r e9).trans (bS_r e10)))))))))
  rw [rd_readRent_147_eq, if_neg (by decide), gz1, z]
  have t14 : s10 14 2 = nn r := by rw [m10.2 14 (by decide) (by omega)]; exact h14
  refine ⟨1, wr s10 14 2 (nn (r + 1)), by rw [t14, nn_s], ?_, fun c h1 h2 h3 => ?_, (fun k q hq => by cases hq), (fun w p' hq => by
    cases hq
    refine ⟨rfl, CG_w (by decide) (by decide) g10, by rw [wr_at, upd_at], fun j hj => ?_⟩
    rw [wr_ne _ _ _ (by omega), c10 (17 + r) (by omega)]
    unfold w6
    match j, hj with
    | 0, _ => rw [if_pos rfl, u_lt u9 (by omega), c8 (17 + r) (by omega), u_lt u7 (by omega), c6 (17 + r) (by omega), u_lt u5 (by omega), c4 (17 + r) (by omega), u_lt u3 (by omega), u_lt u2 (by omega)]; exact u_at u1
    | 1, _ => rw [if_neg (by decide), if_pos rfl, u_lt u9 (by omega), c8 (17 + r) (by omega), u_lt u7 (by omega), c6 (17 + r) (by omega), u_lt u5 (by omega), c4 (17 + r) (by omega), u_lt u3 (by omega)]; exact u_at u2
    | 2, _ => rw [if_neg (by decide), if_neg (by decide), if_pos rfl, u_lt u9 (by omega), c8 (17 + r) (by omega), u_lt u7 (by omega), c6 (17 + r) (by omega), u_lt u5 (by omega), c4 (17 + r) (by omega)]; exact u_at u3
    | 3, _ => rw [if_neg (by decide), if_neg (by decide), if_neg (by decide), if_pos rfl, u_lt u9 (by omega), c8 (17 + r) (by omega), u_lt u7 (by omega), c6 (17 + r) (by omega)]; exact u_at u5
    | 4, _ => rw [if_neg (by decide), if_neg (by decide), if_neg (by decide), if_neg (by decide), if_pos rfl, u_lt u9 (by omega), c8 (17 + r) (by omega)]; exact u_at u7
    | 5, _ => rw [if_neg (by decide), if_neg (by decide), if_neg (by decide), if_neg (by decide), if_neg (by decide)]; exact u_at u9
    | j + 6, hj => exact absurd hj (by omega))⟩
  · rw [wr_ne _ _ _ (by decide)]; exact m10.1
  · rw [wr_ne _ _ _ h2]; exact m10.2 c h1 h3
end RNC
