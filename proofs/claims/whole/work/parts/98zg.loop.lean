/-! RULES: the lines, both sides at once (98zg.py) -/
def cFr (s s' : mSt) : Prop := ∀ c, c ≠ 12 → (c < 14 ∨ 24 < c) → s' c = s c
def moFr (s s' : mSt) : Prop := (∀ a, a ≠ 183 → a ≠ 193 → a ≠ 194 → a ≠ 196 → s' a = s a) ∧ (∀ f, [17, 21, 22, 23, 24, 25, 26].contains f = false → s' 183 f = s 183 f)
def AC (T : Nat → Int32) (n p B r : Nat) (D R : Nat → Int32) (s : mSt) : Prop := CG T n p s ∧ s 12 9 = nn B ∧ s 14 2 = nn r ∧ (∀ j, j < 8 → s 15 j = D j) ∧ ∀ i k, i < r → k < 6 → s (17 + i) k = R (6 * i + k)
def AM (T : Nat → Int32) (n p B r : Nat) (D R : Nat → Int32) (s : mSt) : Prop := RT T n p s ∧ s 183 17 = nn r ∧ (∀ j, j < 8 → s 193 j = D j) ∧ (∀ j, j < 8 → s 194 j = bi (B.testBit j)) ∧ ∀ m, m < 6 * r → s 196 m = R m
def CBad (k q : Nat) (s : mSt) (x : mO) : Prop := ∃ L1 s', x = rd_tell_1_61 s' (nn L1) ∧ cFr s s' ∧ CF k q s'
def CGood (L r : Nat) (D R : Nat → Int32) (s : mSt) (x : mO) : Prop := ∃ s', x = rd_tell_1_61 s' (nn L) ∧ cFr s s' ∧ s' 12 3 = 0 ∧ s' 14 2 = nn r ∧ (∀ j, j < 8 → s' 15 j = D j) ∧ ∀ i k, i < r → k < 6 → s' (17 + i) k = R (6 * i + k)
def MBad (n k q : Nat) (s : mSt) (x : mO) : Prop := ∃ L1 s', x = mo_rules_44 s' (nn L1) ∧ moFr s s' ∧ FD n k q s'
def MGood (L r : Nat) (D R : Nat → Int32) (s : mSt) (x : mO) : Prop := ∃ s', x = mo_rules_44 s' (nn L) ∧ moFr s s' ∧ s' 183 25 = 0 ∧ s' 183 17 = nn r ∧ (∀ j, j < 8 → s' 193 j = D j) ∧ ∀ m, m < 6 * r → s' 196 m = R m
def wOK (w : Nat → Int32) : Prop := bd (w 0) 0 5 ∧ bd (w 1) 0 11 ∧ bd (w 3) 0 998 ∧ bd (w 4) 0 999 ∧ bd (w 5) 0 99
def OKD (r : Nat) (D R : Nat → Int32) : Prop := (∀ j, j < 8 → bd (D j) (lstV (nn j)).toInt (mstV (nn j)).toInt) ∧ ∀ i, i < r → wOK (fun k => R (6 * i + k))
theorem cFr_tr {s s1 s2 : mSt} (h : cFr s s1) (h' : cFr s1 s2) : cFr s s2 := fun c h1 h2 => (h' c h1 h2).trans (h c h1 h2)
theorem moFr_tr {s s1 s2 : mSt} (h : moFr s s1) (h' : moFr s1 s2) : moFr s s2 := ⟨fun a h1 h2 h3 h4 => (h'.1 a h1 h2 h3 h4).trans (h.1 a h1 h2 h3 h4), fun f hf => (h'.2 f hf).trans (h.2 f hf)⟩
theorem CBad_tr {k q : Nat} {s s1 : mSt} {x : mO} (h : cFr s s1) : CBad k q s1 x → CBad k q s x := fun ⟨L, s', a, b, c⟩ => ⟨L, s', a, cFr_tr h b, c⟩
theorem CGood_tr {L r : Nat} {D R : Nat → Int32} {s s1 : mSt} {x : mO} (h : cFr s s1) : CGood L r D R s1 x → CGood L r D R s x := fun ⟨s', a, b, c⟩ => ⟨s', a, cFr_tr h b, c⟩
theorem MBad_tr {n k q : Nat} {s s1 : mSt} {x : mO} (h : moFr s s1) : MBad n k q s1 x → MBad n k q s x := fun ⟨L, s', a, b, c⟩ => ⟨L, s', a, moFr_tr h b, c⟩
theorem MGood_tr {L r : Nat} {D R : Nat → Int32} {s s1 : mSt} {x : mO} (h : moFr s s1) : MGood L r D R s1 x → MGood L r D R s x := fun ⟨s', a, b, c⟩ => ⟨s', a, moFr_tr h b, c⟩
section LOP
variable {T : Nat → Int32} {n : Nat}
theorem rentS_r {p p' : Nat} {w : Nat → Int32} (hp : p ≤ n) (h : rentS T n p = Sum.inr (w, p')) : p < p' ∧ p' ≤ n ∧ wOK w := by
  rcases e1 : houseS T n p with ⟨k, q⟩ | ⟨w1, p1⟩
  · have z : rentS T n p = Sum.inl (k, q) := bS_l e1
    rw [z] at h; cases h
  have l1 := houseS_r hp e1
  rcases e2 : numS T n p1 0 11 with ⟨k, q⟩ | ⟨w2, p2⟩
  · have z : rentS T n p = Sum.inl (k, q) := (bS_r e1).trans (bS_l e2)
    rw [z] at h; cases h
  have l2 := numS_r l1.2.1 e2
  rcases e3 : numS T n p2 1 8 with ⟨k, q⟩ | ⟨w3, p3⟩
  · have z : rentS T n p = Sum.inl (k, q) := (bS_r e1).trans ((bS_r e2).trans (bS_l e3))
    rw [z] at h; cases h
  have l3 := numS_r l2.2.1 e3
  rcases e4 : wordS T n p3 9 with ⟨k, q⟩ | p4
  · have z : rentS T n p = Sum.inl (k, q) := (bS_r e1).trans ((bS_r e2).trans ((bS_r e3).trans (bS_l e4)))
    rw [z] at h; cases h
  have l4 := wordS_r l3.2.1 e4
  rcases e5 : numS T n p4 0 998 with ⟨k, q⟩ | ⟨w5, p5⟩
  · have z : rentS T n p = Sum.inl (k, q) := (bS_r e1).trans ((bS_r e2).trans ((bS_r e3).trans ((bS_r e4).trans (bS_l e5))))
    rw [z] at h; cases h
  have l5 := numS_r l4.2 e5
  rcases e6 : wordS T n p5 10 with ⟨k, q⟩ | p6
  · have z : rentS T n p = Sum.inl (k, q) := (bS_r e1).trans ((bS_r e2).trans ((bS_r e3).trans ((bS_r e4).trans ((bS_r e5).trans (bS_l e6)))))
    rw [z] at h; cases h
  have l6 := wordS_r l5.2.1 e6
  rcases e7 : numS T n p6 (w5 + 1) 999 with ⟨k, q⟩ | ⟨w7, p7⟩
  · have z : rentS T n p = Sum.inl (k, q) := (bS_r e1).trans ((bS_r e2).trans ((bS_r e3).trans ((bS_r e4).trans ((bS_r e5).trans ((bS_r e6).trans (bS_l e7))))))
    rw [z] at h; cases h
  have l7 := numS_r l6.2 e7
  rcases e8 : wordS T n p7 11 with ⟨k, q⟩ | p8
  · have z : rentS T n p = Sum.inl (k, q) := (bS_r e1).trans ((bS_r e2).trans ((bS_r e3).trans ((bS_r e4).trans ((bS_r e5).trans ((bS_r e6).trans ((bS_r e7).trans (bS_l e8)))))))
    rw [z] at h; cases h
  have l8 := wordS_r l7.2.1 e8
  rcases e9 : numS T n p8 0 99 with ⟨k, q⟩ | ⟨w9, p9⟩
  · have z : rentS T n p = Sum.inl (k, q) := (bS_r e1).trans ((bS_r e2).trans ((bS_r e3).trans ((bS_r e4).trans ((bS_r e5).trans ((bS_r e6).trans ((bS_r e7).trans ((bS_r e8).trans (bS_l e9))))))))
    rw [z] at h; cases h
  have l9 := numS_r l8.2 e9
  rcases e10 : stopS T n p9 with ⟨k, q⟩ | p10
  · have z : rentS T n p = Sum.inl (k, q) := (bS_r e1).trans ((bS_r e2).trans ((bS_r e3).trans ((bS_r e4).trans ((bS_r e5).trans ((bS_r e6).trans ((bS_r e7).trans ((bS_r e8).trans ((bS_r e9).trans (bS_l e10)))))))))
    rw [z] at h; cases h
  have l10 := stopS_r l9.2.1 e10
  have z : rentS T n p = Sum.inr (w6 w1 w2 w3 w5 w7 w9, p10) := (bS_r e1).trans ((bS_r e2).trans ((bS_r e3).trans ((bS_r e4).trans ((bS_r e5).trans ((bS_r e6).trans ((bS_r e7).trans ((bS_r e8).trans ((bS_r e9).trans (bS_r e10)))))))))
  rw [z] at h
  cases h
  have y0 : (0 : Int32).toInt = 0 := rfl
  have y1 : (1 : Int32).toInt = 1 := rfl
  have y11 : (11 : Int32).toInt = 11 := rfl
  have y998 : (998 : Int32).toInt = 998 := rfl
  have y999 : (999 : Int32).toInt = 999 := rfl
  have y99 : (99 : Int32).toInt = 99 := rfl
  obtain ⟨a1, a2, a3⟩ := l1
  obtain ⟨b1, b2, b3, b4⟩ := l2
  obtain ⟨c1, c2, -⟩ := l3
  obtain ⟨d1, d2, d3, d4⟩ := l5
  obtain ⟨f1, f2, f3, f4⟩ := l7
  obtain ⟨g1, g2, g3, g4⟩ := l9
  have ea := i32_add (a := w5) (b := 1) (by omega) (by omega)
  refine ⟨by omega, by omega, a3, ?_, ?_, ?_, ?_⟩
  · exact ⟨show 0 ≤ w2.toInt by omega, show w2.toInt ≤ 11 by omega⟩
  · exact ⟨show 0 ≤ w5.toInt by omega, show w5.toInt ≤ 998 by omega⟩
  · exact ⟨show 0 ≤ w7.toInt by omega, show w7.toInt ≤ 999 by omega⟩
  · exact ⟨show 0 ≤ w9.toInt by omega, show w9.toInt ≤ 99 by omega⟩
theorem lineS_r {p B r : Nat} (hp : p ≤ n) : (∀ i x p', lineS T n p B r = Sum.inr (Sum.inl (i, x), p') → i < 8 ∧ p < p' ∧ p' ≤ n ∧ bd x (lstV (nn i)).toInt (mstV (nn i)).toInt) ∧ (∀ w p', lineS T n p B r = Sum.inr (Sum.inr w, p') → r < 8 ∧ p < p' ∧ p' ≤ n ∧ wOK w) := by
  have b1 := tkB_le (T := T) hp
  have b2 := tkE_le (T := T) b1.2
  unfold lineS
  by_cases c8 : tkN T n p = 8
  · rw [if_pos c8]
    by_cases hr8 : r < 8
    · rw [if_pos hr8]
      rcases e : rentS T n (tkE T n (tkB T n p)) with ⟨k, q⟩ | ⟨w, p1⟩
      · rw [bS_l rfl]
        exact ⟨(fun i x p' hq => by cases hq), (fun w p' hq => by cases hq)⟩
      · rw [bS_r rfl]
        have y := rentS_r b2.2 e
        exact ⟨(fun i x p' hq => by cases hq), (fun w p' hq => by cases hq; exact ⟨hr8, by omega, y.2.1, y.2.2⟩)⟩
    · rw [if_neg hr8]
      exact ⟨(fun i x p' hq => by cases hq), (fun w p' hq => by cases hq)⟩
  · rw [if_neg c8]
    by_cases cw : wb (tkN T n p) 0 7 = 0
    · rw [if_pos cw]
      exact ⟨(fun i x p' hq => by cases hq), (fun w p' hq => by cases hq)⟩
    · rw [if_neg cw]
      have e0 : (0 : Int32).toInt = 0 := rfl
      have e7 : (7 : Int32).toInt = 7 := rfl
      obtain ⟨i, ei, hi, hi2, -⟩ := nn_of (x := tkN T n p) (b := 7) ⟨by have := wb_n cw; omega, by have := wb_n cw; omega⟩
      rw [ei, nn_n (by omega)]
      by_cases cb : B.testBit i = true
      · rw [if_pos cb]
        exact ⟨(fun i x p' hq => by cases hq), (fun w p' hq => by cases hq)⟩
      · rw [if_neg cb]
        rcases e2 : numS T n (tkE T n (tkB T n p)) (lstV (nn i)) (mstV (nn i)) with ⟨k, q⟩ | ⟨x, p2⟩
        · rw [bS_l rfl]
          exact ⟨(fun i x p' hq => by cases hq), (fun w p' hq => by cases hq)⟩
        · have y2 := numS_r b2.2 e2
          rw [bS_r rfl]
          rcases e3 : stopS T n p2 with ⟨k, q⟩ | p3
          · rw [bS_l rfl]
            exact ⟨(fun i x p' hq => by cases hq), (fun w p' hq => by cases hq)⟩
          · have y3 := stopS_r y2.2.1 e3
            rw [bS_r rfl]
            exact ⟨(fun i x p' hq => by cases hq; exact ⟨by omega, by omega, y3.2, y2.2.2⟩), (fun w p' hq => by cases hq)⟩
def R1 (r : Nat) (R w : Nat → Int32) (m : Nat) : Int32 := if m < 6 * r then R m else w (m - 6 * r)
theorem OKD_rule {r i : Nat} {D R : Nat → Int32} {x : Int32} (h : OKD r D R) (hx : bd x (lstV (nn i)).toInt (mstV (nn i)).toInt) : OKD r (upd D i x) R := ⟨fun j hj => by
  unfold upd
  by_cases e : j = i
  · rw [if_pos e, e]; exact hx
  · rw [if_neg e]; exact h.1 j hj, h.2⟩
theorem OKD_rent {r : Nat} {D R w : Nat → Int32} (h : OKD r D R) (hw : wOK w) : OKD (r + 1) D (R1 r R w) := ⟨h.1, fun i hi => by
  by_cases e : i < r
  · have := h.2 i e
    have q : ∀ k, k < 6 → R1 r R w (6 * i + k) = R (6 * i + k) := fun k hk => by unfold R1; rw [if_pos (by omega)]
    show bd (R1 r R w (6 * i + 0)) 0 5 ∧ bd (R1 r R w (6 * i + 1)) 0 11 ∧ bd (R1 r R w (6 * i + 3)) 0 998 ∧ bd (R1 r R w (6 * i + 4)) 0 999 ∧ bd (R1 r R w (6 * i + 5)) 0 99
    rw [q 0 (by omega), q 1 (by omega), q 3 (by omega), q 4 (by omega), q 5 (by omega)]
    exact this
  · have ei : i = r := by omega
    have q : ∀ k, k < 6 → R1 r R w (6 * i + k) = w k := fun k hk => by unfold R1; rw [if_neg (by omega), show 6 * i + k - 6 * r = k by omega]
    show bd (R1 r R w (6 * i + 0)) 0 5 ∧ bd (R1 r R w (6 * i + 1)) 0 11 ∧ bd (R1 r R w (6 * i + 3)) 0 998 ∧ bd (R1 r R w (6 * i + 4)) 0 999 ∧ bd (R1 r R w (6 * i + 5)) 0 99
    rw [q 0 (by omega), q 1 (by omega), q 3 (by omega), q 4 (by omega), q 5 (by omega)]
    exact hw⟩
theorem loopB (hn : n ≤ 240) (hT : ∀ j, 0 ≤ (T j).toInt) : ∀ f p B r (D R : Nat → Int32) l, n - p < f → p ≤ n → l ≤ p → B < 256 → r ≤ 8 → OKD r D R →
    (∃ k q, (∀ s, AC T n p B r D R s → CBad k q s (rd_tell_1_24 s (nn l))) ∧ ∀ s, AM T n p B r D R s → MBad n k q s (mo_rules_20 s (nn l))) ∨
    (∃ L r' D' R', r' ≤ 8 ∧ OKD r' D' R' ∧ (∀ s, AC T n p B r D R s → CGood L r' D' R' s (rd_tell_1_24 s (nn l))) ∧ ∀ s, AM T n p B r D R s → MGood L r' D' R' s (mo_rules_20 s (nn l))) := by
  intro f
  induction f with
  | zero => intro p B r D R l h; exact absurd h (Nat.not_lt_zero _)
  | succ f ih =>
    intro p B r D R l hf hp hl hB hr hO
    have h240 : ¬ (240 : Int32) < nn l := nlt (i := 240) (by omega) (by omega)
    cases hok : tkOK T n (tkB T n p) with
    | false =>
      refine Or.inl ⟨1, tkB T n p, fun s hA => ?_, fun s hA => ?_⟩
      · obtain ⟨s1, a1, a2, a3, a4, a5, a6⟩ := tokG hn hp hA.1
        refine ⟨l, s1, ?_, fun c h1 _ => a2 c h1, a6 hok⟩
        rw [rd_tell_1_24_eq, if_neg h240, a1, bI_rI, hok, if_pos (show bi false = 0 from rfl)]
      · have fd := FD_bad hA.1 hok
        refine ⟨l, s, ?_, ⟨fun _ _ _ _ _ => rfl, fun _ _ => rfl⟩, fd⟩
        rw [mo_rules_20_eq, if_neg (dd_0 (FD_pos fd))]
    | true =>
      by_cases c0 : tkS T n (tkB T n p) = 0
      · refine Or.inr ⟨l, r, D, R, hr, hO, fun s hA => ?_, fun s hA => ?_⟩
        · obtain ⟨s1, a1, a2, a3, a4, a5, a6⟩ := tokG hn hp hA.1
          obtain ⟨g, g6, -⟩ := a5 hok
          obtain ⟨-, h9, h14, h15, h17⟩ := hA
          refine ⟨s1, ?_, fun c h1 _ => a2 c h1, g.2.2.2, by rw [a2 14 (by decide)]; exact h14, fun j hj => by rw [a2 15 (by decide)]; exact h15 j hj, fun i k hi hk => by rw [a2 (17 + i) (by omega)]; exact h17 i k hi hk⟩
          rw [rd_tell_1_24_eq, if_neg h240, a1, bI_rI, hok, if_neg (by decide), g6, if_pos c0]
        · obtain ⟨h1, h2⟩ := hA
          obtain ⟨f1, f2, f3, f4⟩ := h1.2.2.2.1 hok
          refine ⟨s, ?_, ⟨fun _ _ _ _ _ => rfl, fun _ _ => rfl⟩, f1, h2.1, h2.2.1, h2.2.2.2⟩
          rw [mo_rules_20_eq, if_pos f1, f3, if_pos c0]
      · have stC : ∀ s, AC T n p B r D R s → ∃ v s2, LC T n p B r s v s2 ∧ rd_tell_1_24 s (nn l) = if v = 0 then rd_tell_1_61 s2 (nn l) else rd_tell_1_24 s2 (nn (l + 1)) := fun s hA => by
          obtain ⟨s1, a1, a2, a3, a4, a5, a6⟩ := tokG hn hp hA.1
          obtain ⟨g, g6, -⟩ := a5 hok
          obtain ⟨-, h9, h14, h15, h17⟩ := hA
          obtain ⟨v, s2, d1, d2⟩ := lineC hn hp g g6 a4 hB (by rw [a3]; exact h9) hr (by rw [a2 14 (by decide)]; exact h14)
          refine ⟨v, s2, ?_, ?_⟩
          · unfold LC at d2 ⊢
            obtain ⟨x1, x2, x3, x4⟩ := d2
            refine ⟨fun c h1 h2 => (x1 c h1 h2).trans (a2 c h1), x2, fun i x p' e => ?_, fun w p' e => ?_⟩
            · obtain ⟨y1, y2, y3, y4, y5, y6⟩ := x3 i x p' e
              exact ⟨y1, y2, y3, y4, by rw [y5, a2 15 (by decide)], fun c h1 h2 => (y6 c h1 h2).trans (a2 c (by omega))⟩
            · obtain ⟨y1, y2, y3, y4, y5, y6, y7⟩ := x4 w p' e
              exact ⟨y1, y2, y3, y4, by rw [y5, a2 15 (by decide)], y6, fun c h0 h1 h2 => (y7 c h0 h1 h2).trans (a2 c (by omega))⟩
          · rw [rd_tell_1_24_eq, if_neg h240, a1, bI_rI, hok, if_neg (by decide), g6, if_neg c0, d1, bI_rI, nn_s]
        have stM : ∀ s, AM T n p B r D R s → ∃ s2, LM T n p B r s s2 ∧ mo_rules_20 s (nn l) = mo_rules_20 s2 (nn (l + 1)) := fun s hA => by
          obtain ⟨h1, h17, h193, h194, h196⟩ := hA
          obtain ⟨f1, f2, f3, f4⟩ := h1.2.2.2.1 hok
          obtain ⟨s2, d1, d2⟩ := lineM (B := B) hn hT hp h1 hok hr h17 h194
          refine ⟨s2, d2, ?_⟩
          rw [mo_rules_20_eq, if_pos f1, f3, if_neg c0, d1, bV_rV, nn_s]
        rcases e : lineS T n p B r with ⟨k, q⟩ | ⟨⟨i, x⟩ | w, p'⟩
        · refine Or.inl ⟨k, q, fun s hA => ?_, fun s hA => ?_⟩
          · obtain ⟨v, s2, d1, d2⟩ := stC s hA
            obtain ⟨v0, fc⟩ := d1.2.1 k q e
            exact ⟨l, s2, by rw [d2, v0, if_pos rfl], d1.1, fc⟩
          · obtain ⟨s2, d1, d2⟩ := stM s hA
            have fd := d1.2.2.1 k q e
            exact ⟨l + 1, s2, by rw [d2, mo_rules_20_eq, if_neg (dd_0 (FD_pos fd))], ⟨d1.1, d1.2.1⟩, fd⟩
        · obtain ⟨i8, pp, pn, bx⟩ := (lineS_r (B := B) (r := r) hp).1 i x p' e
          have nC : ∀ s, AC T n p B r D R s → ∃ s2, cFr s s2 ∧ rd_tell_1_24 s (nn l) = rd_tell_1_24 s2 (nn (l + 1)) ∧ AC T n p' (B ||| 2 ^ i) r (upd D i x) R s2 := fun s hA => by
            obtain ⟨v, s2, d1, d2⟩ := stC s hA
            obtain ⟨v1, g, y9, y14, y15, y17⟩ := d1.2.2.1 i x p' e
            obtain ⟨-, h9, h14, h15, h17⟩ := hA
            refine ⟨s2, d1.1, by rw [d2, v1, if_neg (by decide)], g, y9, y14, fun j hj => ?_, fun a k ha hk => ?_⟩
            · rw [y15]
              unfold upd
              by_cases ej : j = i
              · rw [if_pos ej, if_pos ej]
              · rw [if_neg ej, if_neg ej]; exact h15 j hj
            · rw [y17 (17 + a) (by omega) (by omega)]; exact h17 a k ha hk
          have nM : ∀ s, AM T n p B r D R s → ∃ s2, moFr s s2 ∧ mo_rules_20 s (nn l) = mo_rules_20 s2 (nn (l + 1)) ∧ AM T n p' (B ||| 2 ^ i) r (upd D i x) R s2 := fun s hA => by
            obtain ⟨s2, d1, d2⟩ := stM s hA
            obtain ⟨g, y17, y193, y194, y196⟩ := d1.2.2.2.1 i x p' e
            obtain ⟨-, h17, h193, h194, h196⟩ := hA
            refine ⟨s2, ⟨d1.1, d1.2.1⟩, d2, g, y17, fun j hj => ?_, fun j hj => ?_, fun m hm => by rw [y196]; exact h196 m hm⟩
            · rw [y193]
              unfold upd
              by_cases ej : j = i
              · rw [if_pos ej, if_pos ej]
              · rw [if_neg ej, if_neg ej]; exact h193 j hj
            · rw [y194, tb_or]
              unfold upd
              by_cases ej : j = i
              · rw [if_pos ej, decide_eq_true ej.symm, Bool.or_true]; rfl
              · rw [if_neg ej, decide_eq_false (fun z => ej z.symm), Bool.or_false]; exact h194 j hj
          rcases ih p' (B ||| 2 ^ i) r (upd D i x) R (l + 1) (by omega) pn (by omega) (or_lt (n := 8) hB i8) hr (OKD_rule hO bx) with ⟨k, q, z1, z2⟩ | ⟨L, r', D', R', q1, q2, z1, z2⟩
          · refine Or.inl ⟨k, q, fun s hA => ?_, fun s hA => ?_⟩
            · obtain ⟨s2, y1, y2, y3⟩ := nC s hA
              rw [y2]; exact CBad_tr y1 (z1 s2 y3)
            · obtain ⟨s2, y1, y2, y3⟩ := nM s hA
              rw [y2]; exact MBad_tr y1 (z2 s2 y3)
          · refine Or.inr ⟨L, r', D', R', q1, q2, fun s hA => ?_, fun s hA => ?_⟩
            · obtain ⟨s2, y1, y2, y3⟩ := nC s hA
              rw [y2]; exact CGood_tr y1 (z1 s2 y3)
            · obtain ⟨s2, y1, y2, y3⟩ := nM s hA
              rw [y2]; exact MGood_tr y1 (z2 s2 y3)
        · obtain ⟨r8, pp, pn, bw⟩ := (lineS_r (B := B) (r := r) hp).2 w p' e
          have nC : ∀ s, AC T n p B r D R s → ∃ s2, cFr s s2 ∧ rd_tell_1_24 s (nn l) = rd_tell_1_24 s2 (nn (l + 1)) ∧ AC T n p' B (r + 1) D (R1 r R w) s2 := fun s hA => by
            obtain ⟨v, s2, d1, d2⟩ := stC s hA
            obtain ⟨v1, g, y9, y14, y15, yw, y17⟩ := d1.2.2.2 w p' e
            obtain ⟨-, h9, h14, h15, h17⟩ := hA
            refine ⟨s2, d1.1, by rw [d2, v1, if_neg (by decide)], g, y9, y14, fun j hj => by rw [y15]; exact h15 j hj, fun a k ha hk => ?_⟩
            unfold R1
            by_cases ea : a < r
            · rw [if_pos (by omega), y17 (17 + a) (by omega) (by omega) (by omega)]; exact h17 a k ea hk
            · have er : a = r := by omega
              rw [if_neg (by omega), er, show 6 * r + k - 6 * r = k by omega]; exact yw k hk
          have nM : ∀ s, AM T n p B r D R s → ∃ s2, moFr s s2 ∧ mo_rules_20 s (nn l) = mo_rules_20 s2 (nn (l + 1)) ∧ AM T n p' B (r + 1) D (R1 r R w) s2 := fun s hA => by
            obtain ⟨s2, d1, d2⟩ := stM s hA
            obtain ⟨g, y17, y193, y194, yw, y196⟩ := d1.2.2.2.2 w p' e
            obtain ⟨-, h17, h193, h194, h196⟩ := hA
            refine ⟨s2, ⟨d1.1, d1.2.1⟩, d2, g, y17, fun j hj => by rw [y193]; exact h193 j hj, fun j hj => by rw [y194]; exact h194 j hj, fun m hm => ?_⟩
            unfold R1
            by_cases em : m < 6 * r
            · rw [if_pos em, y196 m em]; exact h196 m em
            · obtain ⟨j, hj⟩ : ∃ j, m = 6 * r + j := ⟨m - 6 * r, by omega⟩
              rw [if_neg em, hj, show 6 * r + j - 6 * r = j by omega]; exact yw j (by omega)
          rcases ih p' B (r + 1) D (R1 r R w) (l + 1) (by omega) pn (by omega) hB (by omega) (OKD_rent hO bw) with ⟨k, q, z1, z2⟩ | ⟨L, r', D', R', q1, q2, z1, z2⟩
          · refine Or.inl ⟨k, q, fun s hA => ?_, fun s hA => ?_⟩
            · obtain ⟨s2, y1, y2, y3⟩ := nC s hA
              rw [y2]; exact CBad_tr y1 (z1 s2 y3)
            · obtain ⟨s2, y1, y2, y3⟩ := nM s hA
              rw [y2]; exact MBad_tr y1 (z2 s2 y3)
          · refine Or.inr ⟨L, r', D', R', q1, q2, fun s hA => ?_, fun s hA => ?_⟩
            · obtain ⟨s2, y1, y2, y3⟩ := nC s hA
              rw [y2]; exact CGood_tr y1 (z1 s2 y3)
            · obtain ⟨s2, y1, y2, y3⟩ := nM s hA
              rw [y2]; exact MGood_tr y1 (z2 s2 y3)
end LOP
