/-! RULES: the reference's readers at any token loaded; a rent (gen98ze.py) -/
/-- a fault stands -/
def FD (n k q : Nat) (s : mSt) : Prop := FT n k q s ∧ 1 ≤ k ∧ k ≤ 5
section RDM
variable {T : Nat → Int32} {n p : Nat} {s : mSt}
theorem FD_pos {k q : Nat} (h : FD n k q s) : 0 < (s 183 25).toInt := FT_pos (by have := h.2.1; omega) (by have := h.2.2; omega) h.1
theorem FD_bad (h : RT T n p s) (hok : tkOK T n (tkB T n p) = false) : FD n 1 (tkB T n p) s := ⟨RT_bad h hok, by omega, by omega⟩
theorem numB (hn : n ≤ 240) (hB : ∀ j, 0 ≤ (T j).toInt) (hp : p ≤ n) (h : RT T n p s) (a b : Int32) (hin : ∀ (s1 : mSt) (v : Int32), mo_in s1 v.toInt64 a.toInt64 b.toInt64 = rI (wb v a b) s1) : ∃ v s', mo_readNumber s a b = rI v s' ∧ moW [21, 22, 23, 24, 25, 26] s s' ∧ (∀ k q, numS T n p a b = Sum.inl (k, q) → FD n k q s') ∧ (∀ w p', numS T n p a b = Sum.inr (w, p') → v = w ∧ RT T n p' s') := by
  cases hok : tkOK T n (tkB T n p) with
  | false =>
    have f := FD_bad h hok
    rw [numS_f hok a b, dd_num (FD_pos f)]
    exact ⟨_, s, rfl, moW_rf, (fun k q hq => by cases hq; exact f), (fun w p' hq => by cases hq)⟩
  | true =>
    obtain ⟨v, s', a1, a2, a3, a4⟩ := numLive hn hB hp h hok a b hin
    rw [numS_t hok a b]
    refine ⟨v, s', a1, a2, ?_⟩
    by_cases c : tkS T n (tkB T n p) = 2
    · rw [if_pos c]
      by_cases w : wb (tkV T n (tkB T n p)) a b = 0
      · rw [if_pos w]
        exact ⟨(fun k q hq => by cases hq; exact ⟨(a4 c).1 w, by omega, by omega⟩), (fun w p' hq => by cases hq)⟩
      · rw [if_neg w]
        exact ⟨(fun k q hq => by cases hq), (fun _ p' hq => by cases hq; exact (a4 c).2 w)⟩
    · rw [if_neg c]
      exact ⟨(fun k q hq => by cases hq; exact ⟨a3 c, by omega, by omega⟩), (fun w p' hq => by cases hq)⟩
theorem nameB (hn : n ≤ 240) (hB : ∀ j, 0 ≤ (T j).toInt) (hp : p ≤ n) (h : RT T n p s) (x : Int32) : ∃ s', mo_readName s x = rV s' ∧ moW [21, 22, 23, 24, 25, 26] s s' ∧ (∀ k q, wordS T n p x = Sum.inl (k, q) → FD n k q s') ∧ (∀ p', wordS T n p x = Sum.inr p' → RT T n p' s') := by
  cases hok : tkOK T n (tkB T n p) with
  | false =>
    have f := FD_bad h hok
    rw [wordS_f hok x, dd_name (FD_pos f)]
    exact ⟨s, rfl, moW_rf, (fun k q hq => by cases hq; exact f), (fun p' hq => by cases hq)⟩
  | true =>
    obtain ⟨s', a1, a2, a3, a4⟩ := nameLive hn hB hp h hok x
    rw [wordS_t hok x]
    refine ⟨s', a1, a2, ?_⟩
    by_cases c : tkN T n p = x
    · rw [if_pos c]
      exact ⟨(fun k q hq => by cases hq), (fun p' hq => by cases hq; exact a4 c)⟩
    · rw [if_neg c]
      exact ⟨(fun k q hq => by cases hq; exact ⟨a3 c, by omega, by omega⟩), (fun p' hq => by cases hq)⟩
theorem stopB (hn : n ≤ 240) (hB : ∀ j, 0 ≤ (T j).toInt) (hp : p ≤ n) (h : RT T n p s) : ∃ s', mo_readLine_133 s = rV s' ∧ moW [21, 22, 23, 24, 25, 26] s s' ∧ (∀ k q, stopS T n p = Sum.inl (k, q) → FD n k q s') ∧ (∀ p', stopS T n p = Sum.inr p' → RT T n p' s') := by
  cases hok : tkOK T n (tkB T n p) with
  | false =>
    have f := FD_bad h hok
    rw [stopS_f hok, dd_133 (FD_pos f)]
    exact ⟨s, rfl, moW_rf, (fun k q hq => by cases hq; exact f), (fun p' hq => by cases hq)⟩
  | true =>
    obtain ⟨s', a1, a2, a3, a4⟩ := stopLive hn hB hp h hok
    rw [stopS_t hok]
    refine ⟨s', a1, a2, ?_⟩
    by_cases c : tkS T n (tkB T n p) = 3
    · rw [if_pos c]
      exact ⟨(fun k q hq => by cases hq), (fun p' hq => by cases hq; exact a4 c)⟩
    · rw [if_neg c]
      exact ⟨(fun k q hq => by cases hq; exact ⟨a3 c, by omega, by omega⟩), (fun p' hq => by cases hq)⟩
/-- what mo_readRent does behind the house -/
noncomputable def rnT (s3 : mSt) (v2 : Int32) : mO :=
        bI (mo_readNumber s3 0 11) fun v4 s4 =>
          bI (mo_readNumber s4 1 8) fun v5 s5 =>
            bV (mo_readName s5 9) fun s6 =>
              bI (mo_readNumber s6 0 998) fun v7 s7 =>
                bV (mo_readName s7 10) fun s8 =>
                  bI (mo_readNumber s8 (v7 + 1) 999) fun v9 s9 =>
                    bV (mo_readName s9 11) fun s10 =>
                      bI (mo_readNumber s10 0 99) fun v11 s11 =>
                        if (s11 183 25) = 0 then
                          gd (inb (6 * (s11 183 17)) 48) (
                            gd (inb ((6 * (s11 183 17)) + 1) 48) (
                              gd (inb ((6 * (s11 183 17)) + 2) 48) (
                                gd (inb ((6 * (s11 183 17)) + 3) 48) (
                                  gd (inb ((6 * (s11 183 17)) + 4) 48) (
                                    gd (inb ((6 * (s11 183 17)) + 5) 48) (
                                      rV (wr (wr (wr (wr (wr (wr (wr s11 196 ((6 * (s11 183 17))).toNatClampNeg (v2 - 97)) 196 (((6 * (s11 183 17)) + 1)).toNatClampNeg v4) 196 (((6 * (s11 183 17)) + 2)).toNatClampNeg v5) 196 (((6 * (s11 183 17)) + 3)).toNatClampNeg v7) 196 (((6 * (s11 183 17)) + 4)).toNatClampNeg v9) 196 (((6 * (s11 183 17)) + 5)).toNatClampNeg v11) 183 17 ((s11 183 17) + 1))))))))
                        else
                          rV s11
theorem mo_readRent_48' (s : mSt) (t0 : Int32) : mo_readRent_48 s t0 = bV (mo_wants s t0 2) fun s1 => bI (mo_look s1 (s1 183 22)) fun v2 s2 => bV (mo_next s2) fun s3 => rnT s3 v2 := mo_readRent_48_eq s t0
theorem houseB (hn : n ≤ 240) (hB : ∀ j, 0 ≤ (T j).toInt) (hp : p ≤ n) (h : RT T n p s) (h25 : s 183 25 = 0) : ∃ v s', mo_readRent s = rnT s' v ∧ moW [21, 22, 23, 24, 25, 26] s s' ∧ (∀ k q, houseS T n p = Sum.inl (k, q) → FD n k q s') ∧ (∀ w p', houseS T n p = Sum.inr (w, p') → v - 97 = w ∧ RT T n p' s') := by
  have b1 := tkB_le (T := T) hp
  have b2 := tkE_le (T := T) b1.2
  have hok : tkOK T n (tkB T n p) = true := by
    cases hok : tkOK T n (tkB T n p) with
    | true => rfl
    | false =>
      have := FD_pos (FD_bad h hok)
      exact absurd h25 (dd_0 this)
  obtain ⟨h1, h2, h3, h4, -⟩ := id h
  obtain ⟨f1, f2, f3, f4⟩ := h4 hok
  have z := houseS_t hok
  have bad : houseS T n p = Sum.inl (2, tkB T n p) → ∃ v s', mo_readRent_48 s 0 = rnT s' v ∧ moW [21, 22, 23, 24, 25, 26] s s' ∧ (∀ k q, houseS T n p = Sum.inl (k, q) → FD n k q s') ∧ (∀ w p', houseS T n p = Sum.inr (w, p') → v - 97 = w ∧ RT T n p' s') := fun z => by
    obtain ⟨s1, g1, g2, g3, g4⟩ := failM (k := 2) h2 f1 h3
    have g1 : mo_wants s 0 2 = rV s1 := g1
    have hl : ∃ v, mo_look s1 (s1 183 22) = rI v s1 := by
      have e1 : s1 = wr (wr s 183 25 2) 183 26 (s 183 22) := by
        have := mo_wants_eq s 0 2
        rw [if_pos rfl, if_pos f1, g1] at this
        exact (congrArg (fun o => match o with | some x => x.2 | none => s1) this)
      have e22 : s1 183 22 = nn (tkB T n p) := by rw [e1, wr_at, upd_ne (by decide), wr_at, upd_ne (by decide)]; exact h3
      rw [e22]
      exact ⟨_, lookM hn ((g2.1 197 (by decide)).trans h1) g3.1 (by omega)⟩
    obtain ⟨v, hl⟩ := hl
    have fd : FD n 2 (tkB T n p) s1 := ⟨g3, by omega, by omega⟩
    rw [mo_readRent_48', g1, bV_rV, hl, bI_rI, dd_next (FD_pos fd), bV_rV, z]
    exact ⟨v, s1, rfl, g2, (fun k q hq => by cases hq; exact fd), (fun w p' hq => by cases hq)⟩
  rw [mo_readRent_eq, f3]
  by_cases c : tkS T n (tkB T n p) = 1
  · obtain ⟨c0, l1, l2⟩ := lt_i c
    rw [if_pos c, f2, h3, nn_d b2.1]
    by_cases c1 : tkE T n (tkB T n p) - tkB T n p = 1
    · have hl : mo_look s (nn (tkB T n p)) = rI (T (tkB T n p)) s := by
        rw [lookM hn h1 h2 (by omega)]
        unfold lkT
        rw [if_pos c0]
      rw [if_pos (by rw [c1]; rfl), hl, bI_rI, show mo_in s (T (tkB T n p)).toInt64 97 102 = rI (wb (T (tkB T n p)) 97 102) s from mowc s _ 97 102 rfl rfl, bI_rI]
      by_cases w : wb (T (tkB T n p)) 97 102 = 0
      · rw [if_pos w]
        exact bad (by rw [z, if_neg (fun y => y.2.2 w)])
      · obtain ⟨s1, g1, g2, g3⟩ := nextRT hn hB hp h hok
        rw [if_neg w, mo_readRent_48', ok_wants (by decide), bV_rV, h3, hl, bI_rI, g1, bV_rV, z, if_pos ⟨c, c1, w⟩]
        exact ⟨T (tkB T n p), s1, rfl, g2, (fun k q hq => by cases hq), (fun w p' hq => by cases hq; exact ⟨rfl, g3⟩)⟩
    · rw [if_neg (show ¬ nn (tkE T n (tkB T n p) - tkB T n p) = (1 : Int32) from fun y => c1 ((nn_eq (j := 1) (by omega) (by omega)).mp y))]
      exact bad (by rw [z, if_neg (fun y => c1 y.2.1)])
  · rw [if_neg c]
    exact bad (by rw [z, if_neg (fun y => c y.1)])
/-- the fault stands: what is behind the house does nothing -/
theorem dd_rnT (h : 0 < (s 183 25).toInt) (v : Int32) : rnT s v = rV s := by
  unfold rnT
  rw [dd_num h, bI_rI, dd_num h, bI_rI, dd_name h, bV_rV, dd_num h, bI_rI, dd_name h, bV_rV, dd_num h, bI_rI, dd_name h, bV_rV, dd_num h, bI_rI, if_neg (dd_0 h)]
theorem rentM (hn : n ≤ 240) (hB : ∀ j, 0 ≤ (T j).toInt) (hp : p ≤ n) (h : RT T n p s) (h25 : s 183 25 = 0) {r : Nat} (hr : r < 8) (h17 : s 183 17 = nn r) : ∃ s', bV (mo_readRent s) (fun s3 => mo_readLine_133 s3) = rV s' ∧ (∀ a, a ≠ 183 → a ≠ 196 → s' a = s a) ∧ (∀ f, [17, 21, 22, 23, 24, 25, 26].contains f = false → s' 183 f = s 183 f) ∧ (∀ k q, rentS T n p = Sum.inl (k, q) → FD n k q s') ∧ (∀ w p', rentS T n p = Sum.inr (w, p') → RT T n p' s' ∧ s' 183 17 = nn (r + 1) ∧ (∀ j, j < 6 → s' 196 (6 * r + j) = w j) ∧ ∀ m, m < 6 * r → s' 196 m = s 196 m) := by
  have bad : ∀ k q (s1 : mSt), moW [21, 22, 23, 24, 25, 26] s s1 → FD n k q s1 → rentS T n p = Sum.inl (k, q) → ∃ s', bV (rV s1) (fun s3 => mo_readLine_133 s3) = rV s' ∧ (∀ a, a ≠ 183 → a ≠ 196 → s' a = s a) ∧ (∀ f, [17, 21, 22, 23, 24, 25, 26].contains f = false → s' 183 f = s 183 f) ∧ (∀ k q, rentS T n p = Sum.inl (k, q) → FD n k q s') ∧ (∀ w p', rentS T n p = Sum.inr (w, p') → RT T n p' s' ∧ s' 183 17 = nn (r + 1) ∧ (∀ j, j < 6 → s' 196 (6 * r + j) = w j) ∧ ∀ m, m < 6 * r → s' 196 m = s 196 m) := fun k q s1 hm hf z => by
    have hm' := moW_sub (gs := [17, 21, 22, 23, 24, 25, 26]) hm (by decide)
    rw [bV_rV, dd_133 (FD_pos hf), z]
    exact ⟨s1, rfl, fun a h1 _ => hm.1 a h1, hm'.2, (fun k q hq => by cases hq; exact hf), (fun w p' hq => by cases hq)⟩
  obtain ⟨v1, s1, a1, m1, i1, o1⟩ := houseB hn hB hp h h25
  rw [a1]
  rcases e1 : houseS T n p with ⟨k, q⟩ | ⟨w1, p1⟩
  · rw [dd_rnT (FD_pos (i1 k q e1))]
    exact bad k q s1 m1 (i1 k q e1) (bS_l e1)
  obtain ⟨z1, g1⟩ := o1 w1 p1 e1
  have l1 := (houseS_r hp e1).2.1
  unfold rnT
  obtain ⟨v2, s2, a2, n2, i2, o2⟩ := numB hn hB l1 g1 0 11 (fun s v => mow s v 0 11)
  rw [a2, bI_rI]
  have m2 := moW_tr m1 n2
  rcases e2 : numS T n p1 0 11 with ⟨k, q⟩ | ⟨w2, p2⟩
  · have f := i2 k q e2
    rw [dd_num (FD_pos f), bI_rI, dd_name (FD_pos f), bV_rV, dd_num (FD_pos f), bI_rI, dd_name (FD_pos f), bV_rV, dd_num (FD_pos f), bI_rI, dd_name (FD_pos f), bV_rV, dd_num (FD_pos f), bI_rI, if_neg (dd_0 (FD_pos f))]
    exact bad k q s2 m2 f ((bS_r e1).trans (bS_l e2))
  obtain ⟨z2, g2⟩ := o2 w2 p2 e2
  have l2 := (numS_r l1 e2).2.1
  obtain ⟨v3, s3, a3, n3, i3, o3⟩ := numB hn hB l2 g2 1 8 (fun s v => mow s v 1 8)
  rw [a3, bI_rI]
  have m3 := moW_tr m2 n3
  rcases e3 : numS T n p2 1 8 with ⟨k, q⟩ | ⟨w3, p3⟩
  · have f := i3 k q e3
    rw [dd_name (FD_pos f), bV_rV, dd_num (FD_pos f), bI_rI, dd_name (FD_pos f), bV_rV, dd_num (FD_pos f), bI_rI, dd_name (FD_pos f), bV_rV, dd_num (FD_pos f), bI_rI, if_neg (dd_0 (FD_pos f))]
    exact bad k q s3 m3 f ((bS_r e1).trans ((bS_r e2).trans (bS_l e3)))
  obtain ⟨z3, g3⟩ := o3 w3 p3 e3
  have l3 := (numS_r l2 e3).2.1
  obtain ⟨s4, a4, n4, i4, o4⟩ := nameB hn hB l3 g3 9
  rw [a4, bV_rV]
  have m4 := moW_tr m3 n4
  rcases e4 : wordS T n p3 9 with ⟨k, q⟩ | p4
  · have f := i4 k q e4
    rw [dd_num (FD_pos f), bI_rI, dd_name (FD_pos f), bV_rV, dd_num (FD_pos f), bI_rI, dd_name (FD_pos f), bV_rV, dd_num (FD_pos f), bI_rI, if_neg (dd_0 (FD_pos f))]
    exact bad k q s4 m4 f ((bS_r e1).trans ((bS_r e2).trans ((bS_r e3).trans (bS_l e4))))
  have g4 := o4 p4 e4
  have l4 := (wordS_r l3 e4).2
  obtain ⟨v5, s5, a5, n5, i5, o5⟩ := numB hn hB l4 g4 0 998 (fun s v => mow s v 0 998)
  rw [a5, bI_rI]
  have m5 := moW_tr m4 n5
  rcases e5 : numS T n p4 0 998 with ⟨k, q⟩ | ⟨w5, p5⟩
  · have f := i5 k q e5
    rw [dd_name (FD_pos f), bV_rV, dd_num (FD_pos f), bI_rI, dd_name (FD_pos f), bV_rV, dd_num (FD_pos f), bI_rI, if_neg (dd_0 (FD_pos f))]
    exact bad k q s5 m5 f ((bS_r e1).trans ((bS_r e2).trans ((bS_r e3).trans ((bS_r e4).trans (bS_l e5)))))
  obtain ⟨z5, g5⟩ := o5 w5 p5 e5
  have l5 := (numS_r l4 e5).2.1
  rw [z5]
  obtain ⟨s6, a6, n6, i6, o6⟩ := nameB hn hB l5 g5 10
  rw [a6, bV_rV]
  have m6 := moW_tr m5 n6
  rcases e6 : wordS T n p5 10 with ⟨k, q⟩ | p6
  · have f := i6 k q e6
    rw [dd_num (FD_pos f), bI_rI, dd_name (FD_pos f), bV_rV, dd_num (FD_pos f), bI_rI, if_neg (dd_0 (FD_pos f))]
    exact bad k q s6 m6 f ((bS_r e1).trans ((bS_r e2).trans ((bS_r e3).trans ((bS_r e4).trans ((bS_r e5).trans (bS_l e6))))))
  have g6 := o6 p6 e6
  have l6 := (wordS_r l5 e6).2
  obtain ⟨v7, s7, a7, n7, i7, o7⟩ := numB hn hB l6 g6 (w5 + 1) 999 (fun s v => mow s v (w5 + 1) 999)
  rw [a7, bI_rI]
  have m7 := moW_tr m6 n7
  rcases e7 : numS T n p6 (w5 + 1) 999 with ⟨k, q⟩ | ⟨w7, p7⟩
  · have f := i7 k q e7
    rw [dd_name (FD_pos f), bV_rV, dd_num (FD_pos f), bI_rI, if_neg (dd_0 (FD_pos f))]
    exact bad k q s7 m7 f ((bS_r e1).trans ((bS_r e2).trans ((bS_r e3).trans ((bS_r e4).trans ((bS_r e5).trans ((bS_r e6).trans (bS_l e7)))))))
  obtain ⟨z7, g7⟩ := o7 w7 p7 e7
  have l7 := (numS_r l6 e7).2.1
  obtain ⟨s8, a8, n8, i8, o8⟩ := nameB hn hB l7 g7 11
  rw [a8, bV_rV]
  have m8 := moW_tr m7 n8
  rcases e8 : wordS T n p7 11 with ⟨k, q⟩ | p8
  · have f := i8 k q e8
    rw [dd_num (FD_pos f), bI_rI, if_neg (dd_0 (FD_pos f))]
    exact bad k q s8 m8 f ((bS_r e1).trans ((bS_r e2).trans ((bS_r e3).trans ((bS_r e4).trans ((bS_r e5).trans ((bS_r e6).trans ((bS_r e7).trans (bS_l e8))))))))
  have g8 := o8 p8 e8
  have l8 := (wordS_r l7 e8).2
  obtain ⟨v9, s9, a9, n9, i9, o9⟩ := numB hn hB l8 g8 0 99 (fun s v => mow s v 0 99)
  rw [a9, bI_rI]
  have m9 := moW_tr m8 n9
  rcases e9 : numS T n p8 0 99 with ⟨k, q⟩ | ⟨w9, p9⟩
  · have f := i9 k q e9
    rw [if_neg (dd_0 (FD_pos f))]
    exact bad k q s9 m9 f ((bS_r e1).trans ((bS_r e2).trans ((bS_r e3).trans ((bS_r e4).trans ((bS_r e5).trans ((bS_r e6).trans ((bS_r e7).trans ((bS_r e8).trans (bS_l e9)))))))))
  obtain ⟨z9, g9⟩ := o9 w9 p9 e9
  have l9 := (numS_r l8 e9).2.1
  have t17 : s9 183 17 = nn r := by rw [m9.2 17 rfl]; exact h17
  have q0 : (6 : Int32) * nn r = nn (6 * r) := nn_m 6 r
  have q1 : nn (6 * r) + 1 = nn (6 * r + 1) := nn_a (6 * r) 1
  have q2 : nn (6 * r) + 2 = nn (6 * r + 2) := nn_a (6 * r) 2
  have q3 : nn (6 * r) + 3 = nn (6 * r + 3) := nn_a (6 * r) 3
  have q4 : nn (6 * r) + 4 = nn (6 * r + 4) := nn_a (6 * r) 4
  have q5 : nn (6 * r) + 5 = nn (6 * r + 5) := nn_a (6 * r) 5
  have bb : ∀ j, j < 6 → inb (nn (6 * r + j)) 48 = true := fun j hj => nn_b (i := 6 * r + j) (n := 48) (by omega) (by decide)
  have nb : ∀ j, j < 6 → (nn (6 * r + j)).toNatClampNeg = 6 * r + j := fun j hj => nn_n (by omega)
  have n0 : (nn (6 * r)).toNatClampNeg = 6 * r + 0 := nn_n (by omega)
  have b0 : inb (nn (6 * r)) 48 = true := bb 0 (by omega)
  by_cases c25 : s9 183 25 = 0
  · rw [if_pos c25, t17, q0, q1, q2, q3, q4, q5, b0, bb 1 (by omega), bb 2 (by omega), bb 3 (by omega), bb 4 (by omega), bb 5 (by omega), gd_t, gd_t, gd_t, gd_t, gd_t, gd_t, n0, nb 1 (by omega), nb 2 (by omega), nb 3 (by omega), nb 4 (by omega), nb 5 (by omega), nn_s, bV_rV, z1, z2, z3, z7, z9]
    have hs : ∃ s10, wr (wr (wr (wr (wr (wr (wr s9 196 (6 * r + 0) w1) 196 (6 * r + 1) w2) 196 (6 * r + 2) w3) 196 (6 * r + 3) w5) 196 (6 * r + 4) w7) 196 (6 * r + 5) w9) 183 17 (nn (r + 1)) = s10 := ⟨_, rfl⟩
    obtain ⟨s10, hs⟩ := hs
    rw [hs]
    have k1 : ∀ a, a ≠ 183 → a ≠ 196 → s10 a = s9 a := fun a h1 h2 => by rw [← hs, wr_ne _ _ _ h1, wr_ne _ _ _ h2, wr_ne _ _ _ h2, wr_ne _ _ _ h2, wr_ne _ _ _ h2, wr_ne _ _ _ h2, wr_ne _ _ _ h2]
    have k2 : ∀ f, f ≠ 17 → s10 183 f = s9 183 f := fun f hf => by rw [← hs, wr_at, upd_ne hf, wr_ne _ _ _ (by decide), wr_ne _ _ _ (by decide), wr_ne _ _ _ (by decide), wr_ne _ _ _ (by decide), wr_ne _ _ _ (by decide), wr_ne _ _ _ (by decide)]
    have k3 : s10 183 17 = nn (r + 1) := by rw [← hs, wr_at, upd_at]
    have k4 : ∀ j, j < 6 → s10 196 (6 * r + j) = w6 w1 w2 w3 w5 w7 w9 j := fun j hj => by
      rw [← hs, wr_ne _ _ _ (by decide), wr_at, wr_at, wr_at, wr_at, wr_at, wr_at]
      unfold w6
      match j, hj with
      | 0, _ => rw [upd_ne (by omega), upd_ne (by omega), upd_ne (by omega), upd_ne (by omega), upd_ne (by omega), upd_at]; rfl
      | 1, _ => rw [upd_ne (by omega), upd_ne (by omega), upd_ne (by omega), upd_ne (by omega), upd_at]; rfl
      | 2, _ => rw [upd_ne (by omega), upd_ne (by omega), upd_ne (by omega), upd_at]; rfl
      | 3, _ => rw [upd_ne (by omega), upd_ne (by omega), upd_at]; rfl
      | 4, _ => rw [upd_ne (by omega), upd_at]; rfl
      | 5, _ => rw [upd_at]; rfl
      | j + 6, hj => exact absurd hj (by omega)
    have k5 : ∀ m, m < 6 * r → s10 196 m = s 196 m := fun m hm => by
      rw [← hs, wr_ne _ _ _ (by decide), wr_at, wr_at, wr_at, wr_at, wr_at, wr_at, upd_ne (by omega), upd_ne (by omega), upd_ne (by omega), upd_ne (by omega), upd_ne (by omega), upd_ne (by omega), m9.1 196 (by decide)]
    have g10 : RT T n p9 s10 := by
      obtain ⟨h1, h2, h3, h4, h5⟩ := g9
      refine ⟨by rw [k1 197 (by decide) (by decide)]; exact h1, by rw [k2 20 (by decide)]; exact h2, by rw [k2 22 (by decide)]; exact h3, fun ho => ?_, fun ho => ?_⟩
      · rw [k2 25 (by decide), k2 21 (by decide), k2 23 (by decide), k2 24 (by decide)]; exact h4 ho
      · rw [k2 25 (by decide), k2 26 (by decide)]; exact h5 ho
    obtain ⟨s11, a11, m11, i11, o11⟩ := stopB hn hB l9 g10
    have ka : ∀ a, a ≠ 183 → a ≠ 196 → s11 a = s a := fun a h1 h2 => by rw [m11.1 a h1, k1 a h1 h2, m9.1 a h1]
    have kf : ∀ f, [17, 21, 22, 23, 24, 25, 26].contains f = false → s11 183 f = s 183 f := fun f hf => by
      have h17 : f ≠ 17 := fun e => by rw [e] at hf; cases hf
      have hc : [21, 22, 23, 24, 25, 26].contains f = false := by
        cases e : [21, 22, 23, 24, 25, 26].contains f with
        | false => rfl
        | true =>
          exfalso
          have : f ∈ [21, 22, 23, 24, 25, 26] := by simpa using e
          have h2 : f ∈ [17, 21, 22, 23, 24, 25, 26] := List.mem_cons_of_mem _ this
          have : [17, 21, 22, 23, 24, 25, 26].contains f = true := by simpa using h2
          rw [this] at hf; cases hf
      rw [m11.2 f hc, k2 f h17, m9.2 f hc]
    refine ⟨s11, a11, ka, kf, ?_⟩
    rcases e10 : stopS T n p9 with ⟨k, q⟩ | p10
    · have z : rentS T n p = Sum.inl (k, q) := (bS_r e1).trans ((bS_r e2).trans ((bS_r e3).trans ((bS_r e4).trans ((bS_r e5).trans ((bS_r e6).trans ((bS_r e7).trans ((bS_r e8).trans ((bS_r e9).trans (bS_l e10)))))))))
      rw [z]
      exact ⟨(fun k q hq => by cases hq; exact i11 _ _ e10), (fun w p' hq => by cases hq)⟩
    · have z : rentS T n p = Sum.inr (w6 w1 w2 w3 w5 w7 w9, p10) := (bS_r e1).trans ((bS_r e2).trans ((bS_r e3).trans ((bS_r e4).trans ((bS_r e5).trans ((bS_r e6).trans ((bS_r e7).trans ((bS_r e8).trans ((bS_r e9).trans (bS_r e10)))))))))
      rw [z]
      refine ⟨(fun k q hq => by cases hq), (fun w p' hq => by
        cases hq
        exact ⟨o11 _ e10, by rw [m11.2 17 rfl]; exact k3, fun j hj => by rw [m11.1 196 (by decide)]; exact k4 j hj, fun m hm => by rw [m11.1 196 (by decide)]; exact k5 m hm⟩)⟩
  · have hbad : tkOK T n (tkB T n p9) = false := by
      cases hok : tkOK T n (tkB T n p9) with
      | false => rfl
      | true => exact absurd (g9.2.2.2.1 hok).1 c25
    have f := FD_bad g9 hbad
    have e10 := stopS_f hbad
    rw [if_neg c25]
    exact bad 1 (tkB T n p9) s9 m9 f ((bS_r e1).trans ((bS_r e2).trans ((bS_r e3).trans ((bS_r e4).trans ((bS_r e5).trans ((bS_r e6).trans ((bS_r e7).trans ((bS_r e8).trans ((bS_r e9).trans (bS_l e10))))))))))
end RDM
