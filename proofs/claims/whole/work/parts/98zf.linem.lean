/-! RULES: the reference reads a line -/
def LM (T : Nat → Int32) (n p B r : Nat) (s s' : mSt) : Prop :=
  (∀ a, a ≠ 183 → a ≠ 193 → a ≠ 194 → a ≠ 196 → s' a = s a) ∧ (∀ f, [17, 21, 22, 23, 24, 25, 26].contains f = false → s' 183 f = s 183 f) ∧ (∀ k q, lineS T n p B r = Sum.inl (k, q) → FD n k q s') ∧
  (∀ i x p', lineS T n p B r = Sum.inr (Sum.inl (i, x), p') → RT T n p' s' ∧ s' 183 17 = nn r ∧ s' 193 = upd (s 193) i x ∧ s' 194 = upd (s 194) i 1 ∧ s' 196 = s 196) ∧
  (∀ w p', lineS T n p B r = Sum.inr (Sum.inr w, p') → RT T n p' s' ∧ s' 183 17 = nn (r + 1) ∧ s' 193 = s 193 ∧ s' 194 = s 194 ∧ (∀ j, j < 6 → s' 196 (6 * r + j) = w j) ∧ ∀ m, m < 6 * r → s' 196 m = s 196 m)
section LNM
variable {T : Nat → Int32} {n p B r : Nat} {s : mSt}
theorem c17 {f : Nat} (hf : [17, 21, 22, 23, 24, 25, 26].contains f = false) : [21, 22, 23, 24, 25, 26].contains f = false := by
  cases e : [21, 22, 23, 24, 25, 26].contains f with
  | false => rfl
  | true =>
    exfalso
    have h1 : f ∈ [21, 22, 23, 24, 25, 26] := by simpa using e
    have h2 : f ∈ [17, 21, 22, 23, 24, 25, 26] := List.mem_cons_of_mem _ h1
    have h3 : [17, 21, 22, 23, 24, 25, 26].contains f = true := by simpa using h2
    rw [h3] at hf; cases hf
theorem LM_bad {k q : Nat} {s' : mSt} (ho : ∀ a, a ≠ 183 → a ≠ 193 → a ≠ 194 → a ≠ 196 → s' a = s a) (hf : ∀ f, [17, 21, 22, 23, 24, 25, 26].contains f = false → s' 183 f = s 183 f) (h : FD n k q s') (z : lineS T n p B r = Sum.inl (k, q)) : LM T n p B r s s' := by
  unfold LM
  rw [z]
  exact ⟨ho, hf, (fun k q hq => by cases hq; exact h), (fun i x p' hq => by cases hq), (fun w p' hq => by cases hq)⟩
theorem LM_badW {k q : Nat} {s' : mSt} (hm : moW [21, 22, 23, 24, 25, 26] s s') (h : FD n k q s') (z : lineS T n p B r = Sum.inl (k, q)) : LM T n p B r s s' := LM_bad (fun a h1 _ _ _ => hm.1 a h1) (fun f hf => hm.2 f (c17 hf)) h z
theorem RT_w {c j : Nat} {v : Int32} (h1 : 183 ≠ c) (h2 : 197 ≠ c) (h : RT T n p s) : RT T n p (wr s c j v) := by
  unfold RT
  rw [wr_ne _ _ _ h1, wr_ne _ _ _ h2]
  exact h
theorem FD_w {k q c j : Nat} {v : Int32} (h1 : 183 ≠ c) (h : FD n k q s) : FD n k q (wr s c j v) := by
  unfold FD FT
  rw [wr_ne _ _ _ h1]
  exact h
theorem leastM (x : Int32) : mo_least s x = rI (lstV x) s := by
  rw [mo_least_eq]
  unfold lstV
  split <;> rfl
theorem mostM (x : Int32) : mo_most s x = rI (mstV x) s := by
  rw [mo_most_eq]
  unfold mstV
  split
  · split <;> rfl
  · rfl
theorem dd_73 (h : 0 < (s 183 25).toInt) (x t : Int32) : mo_readLine_73 s x t = rV s := by
  rw [mo_readLine_73_eq, dd_wants h, bV_rV, dd_next h, bV_rV, if_neg (dd_0 h), dd_101 h]
  split <;> rfl
theorem le0 {x : Int32} (h : x = 0) : x ≤ 0 := by rw [h]; decide
theorem nle0 {x : Int32} (h : 0 < x.toInt) : ¬ x ≤ 0 := fun z => by
  rw [Int32.le_iff_toInt_le] at z
  have e0 : (0 : Int32).toInt = 0 := rfl
  omega
theorem lineM (hn : n ≤ 240) (hB : ∀ j, 0 ≤ (T j).toInt) (hp : p ≤ n) (h : RT T n p s) (hok : tkOK T n (tkB T n p) = true) (hr : r ≤ 8) (h17 : s 183 17 = nn r) (h194 : ∀ j, j < 8 → s 194 j = bi (B.testBit j)) : ∃ s', mo_readLine s = rV s' ∧ LM T n p B r s s' := by
  have b1 := tkB_le (T := T) hp
  have b2 := tkE_le (T := T) b1.2
  obtain ⟨h1, h2, h3, h4, -⟩ := id h
  obtain ⟨f1, f2, f3, f4⟩ := h4 hok
  have fl : ∀ k, 1 ≤ k → k ≤ 5 → lineS T n p B r = Sum.inl (k, tkB T n p) → ∃ s', mo_wants s 0 (nn k) = rV s' ∧ 0 < (s' 183 25).toInt ∧ LM T n p B r s s' := fun k k1 k5 z => by
    obtain ⟨s1, g1, g2, g3, g4⟩ := failM (k := k) h2 f1 h3
    have fd : FD n k (tkB T n p) s1 := ⟨g3, k1, k5⟩
    exact ⟨s1, g1, FD_pos fd, LM_badW g2 fd z⟩
  rw [mo_readLine_eq, nowM hn hp h hok, bI_rI, show mo_in s (tkN T n p).toInt64 0 8 = rI (wb (tkN T n p) 0 8) s from mowc s _ 0 8 rfl rfl, bI_rI]
  by_cases c8 : tkN T n p = 8
  · rw [c8, show wb 8 0 8 = 1 by decide, ok_wants (by decide), bV_rV, if_pos (le0 f1), if_pos rfl, mo_readLine_48_eq, ok_wants (by decide), bV_rV, if_neg (show ¬ (8 : Int32) < 8 by decide), h17]
    by_cases hr8 : r < 8
    · have z : lineS T n p B r = bS (rentS T n (tkE T n (tkB T n p))) fun x => Sum.inr (Sum.inr x.1, x.2) := by unfold lineS; rw [if_pos c8, if_pos hr8]
      obtain ⟨s2, a2, m2, g2⟩ := nextRT hn hB hp h hok
      rw [if_neg (show ¬ (8 : Int32) ≤ nn r from nle (i := 8) hr8 (by decide)), mo_readLine_73_eq, ok_wants (by decide), bV_rV, a2, bV_rV, if_pos rfl]
      by_cases c25 : s2 183 25 = 0
      · rw [if_pos c25]
        obtain ⟨s3, a3, o3, k3, i3, u3⟩ := rentM hn hB b2.2 g2 c25 hr8 (by rw [m2.2 17 rfl]; exact h17)
        rw [a3]
        have ho : ∀ a, a ≠ 183 → a ≠ 193 → a ≠ 194 → a ≠ 196 → s3 a = s a := fun a h1 _ _ h4 => by rw [o3 a h1 h4, m2.1 a h1]
        have hf : ∀ f, [17, 21, 22, 23, 24, 25, 26].contains f = false → s3 183 f = s 183 f := fun f hf => by rw [k3 f hf, m2.2 f (c17 hf)]
        refine ⟨s3, rfl, ?_⟩
        rcases e : rentS T n (tkE T n (tkB T n p)) with ⟨k, q⟩ | ⟨w, p'⟩
        · exact LM_bad ho hf (i3 k q e) (z.trans (bS_l e))
        · have z2 : lineS T n p B r = Sum.inr (Sum.inr w, p') := z.trans (bS_r e)
          obtain ⟨y1, y2, y3, y4⟩ := u3 w p' e
          unfold LM
          rw [z2]
          exact ⟨ho, hf, (fun k q hq => by cases hq), (fun i x p' hq => by cases hq), (fun w p' hq => by
            cases hq
            exact ⟨y1, y2, by rw [o3 193 (by decide) (by decide), m2.1 193 (by decide)], by rw [o3 194 (by decide) (by decide), m2.1 194 (by decide)], y3, fun m hm => by rw [y4 m hm, m2.1 196 (by decide)]⟩)⟩
      · have hbad : tkOK T n (tkB T n (tkE T n (tkB T n p))) = false := by
          cases hk : tkOK T n (tkB T n (tkE T n (tkB T n p))) with
          | false => rfl
          | true => exact absurd (g2.2.2.2.1 hk).1 c25
        have f := FD_bad g2 hbad
        rw [if_neg c25, dd_101 (FD_pos f)]
        exact ⟨s2, rfl, LM_badW m2 f (z.trans (bS_l (bS_l (houseS_f hbad))))⟩
    · have z : lineS T n p B r = Sum.inl (5, tkB T n p) := by unfold lineS; rw [if_pos c8, if_neg hr8]
      obtain ⟨s1, a1, a2, a3⟩ := fl 5 (by omega) (by omega) z
      have a1 : mo_wants s 0 5 = rV s1 := a1
      rw [if_pos (show (8 : Int32) ≤ nn r from yle (i := 8) (by omega) (by omega)), mo_readLine_73_eq, a1, bV_rV, dd_next a2, bV_rV, if_pos rfl, if_neg (dd_0 a2), dd_101 a2]
      exact ⟨s1, rfl, a3⟩
  · have e0 : (0 : Int32).toInt = 0 := rfl
    have e7 : (7 : Int32).toInt = 7 := rfl
    have e8 : (8 : Int32).toInt = 8 := rfl
    by_cases cw : wb (tkN T n p) 0 7 = 0
    · have z : lineS T n p B r = Sum.inl (2, tkB T n p) := by unfold lineS; rw [if_neg c8, if_pos cw]
      obtain ⟨s1, a1, a2, a3⟩ := fl 2 (by omega) (by omega) z
      have a1 : mo_wants s 0 2 = rV s1 := a1
      have w8 : wb (tkN T n p) 0 8 = 0 := by
        rcases wb_01 (x := tkN T n p) (a := 0) (b := 8) with y | y
        · exact y
        · exfalso
          have y1 := wb_n (x := tkN T n p) (a := 0) (b := 8) (by rw [y]; decide)
          have y2 := wb_y cw
          exact c8 (Int32.toInt_inj.mp (by omega))
      rw [w8, a1, bV_rV, if_neg (nle0 a2)]
      exact ⟨s1, rfl, a3⟩
    · obtain ⟨i, ei, hi, hi2, -⟩ := nn_of (x := tkN T n p) (b := 7) ⟨by have := wb_n cw; omega, by have := wb_n cw; omega⟩
      have hi8 : i < 8 := by omega
      have z0 : lineS T n p B r = if B.testBit i = true then Sum.inl (4, tkB T n p) else bS (numS T n (tkE T n (tkB T n p)) (lstV (nn i)) (mstV (nn i))) fun x => bS (stopS T n x.2) fun p' => Sum.inr (Sum.inl (i, x.1), p') := by
        unfold lineS
        rw [if_neg c8, if_neg cw, ei, nn_n (by omega)]
      have w8 : wb (tkN T n p) 0 8 ≠ 0 := fun y => by
        have y1 := wb_y y
        have y2 := wb_n cw
        omega
      have n8 : ¬ nn i = 8 := fun y => by have := (nn_eq (j := 8) (by omega) (by omega)).mp y; omega
      rw [ok_wants w8, bV_rV, if_pos (le0 f1), if_neg c8, ei, nn_b (i := i) (n := 8) hi8 (by decide), gd_t, nn_n (by omega), h194 i hi8, bi_if]
      by_cases cb : B.testBit i = true
      · rw [if_pos cb] at z0
        obtain ⟨s1, a1, a2, a3⟩ := fl 4 (by omega) (by omega) z0
        have a1 : mo_wants s 0 4 = rV s1 := a1
        rw [if_pos cb, mo_readLine_48_eq, a1, bV_rV, if_pos (show nn i < 8 from ylt (j := 8) hi8 (by decide)), dd_73 a2]
        exact ⟨s1, rfl, a3⟩
      · rw [if_neg cb] at z0
        obtain ⟨s2, a2, m2, g2⟩ := nextRT hn hB hp h hok
        rw [if_neg cb, mo_readLine_48_eq, ok_wants (by decide), bV_rV, if_pos (show nn i < 8 from ylt (j := 8) hi8 (by decide)), mo_readLine_73_eq, ok_wants (by decide), bV_rV, a2, bV_rV, if_neg n8, mo_readLine_101_eq]
        by_cases c25 : s2 183 25 = 0
        · have g2' : RT T n (tkE T n (tkB T n p)) (wr s2 194 i 1) := RT_w (by decide) (by decide) g2
          rw [if_pos c25, nn_b (i := i) (n := 8) hi8 (by decide), gd_t, nn_n (by omega), leastM, bI_rI, mostM, bI_rI]
          obtain ⟨v3, s3, a3, m3, i3, u3⟩ := numB hn hB b2.2 g2' (lstV (nn i)) (mstV (nn i)) (fun s v => mow s v _ _)
          rw [a3, bI_rI, gd_t]
          have o3 : ∀ a, a ≠ 183 → a ≠ 194 → s3 a = s a := fun a y1 y2 => by rw [m3.1 a y1, wr_ne _ _ _ y2, m2.1 a y1]
          have k3 : ∀ f, [21, 22, 23, 24, 25, 26].contains f = false → s3 183 f = s 183 f := fun f hf => by rw [m3.2 f hf, wr_ne _ _ _ (by decide), m2.2 f hf]
          have h94 : s3 194 = upd (s 194) i 1 := by rw [m3.1 194 (by decide), wr_at, m2.1 194 (by decide)]
          rcases e3 : numS T n (tkE T n (tkB T n p)) (lstV (nn i)) (mstV (nn i)) with ⟨k, q⟩ | ⟨x, p3⟩
          · have f : FD n k q (wr s3 193 i v3) := FD_w (by decide) (i3 k q e3)
            rw [dd_133 (FD_pos f)]
            exact ⟨_, rfl, LM_bad (fun a y1 y2 y3 _ => by rw [wr_ne _ _ _ y2]; exact o3 a y1 y3) (fun f hf => by rw [wr_ne _ _ _ (by decide)]; exact k3 f (c17 hf)) f (z0.trans (bS_l e3))⟩
          · obtain ⟨ev, g3⟩ := u3 x p3 e3
            have l3 := (numS_r b2.2 e3).2.1
            have g3' : RT T n p3 (wr s3 193 i x) := RT_w (by decide) (by decide) g3
            obtain ⟨s4, a4, m4, i4, u4⟩ := stopB hn hB l3 g3'
            rw [ev, a4]
            have ho : ∀ a, a ≠ 183 → a ≠ 193 → a ≠ 194 → a ≠ 196 → s4 a = s a := fun a y1 y2 y3 _ => by rw [m4.1 a y1, wr_ne _ _ _ y2]; exact o3 a y1 y3
            have hk : ∀ f, [21, 22, 23, 24, 25, 26].contains f = false → s4 183 f = s 183 f := fun f hf => by rw [m4.2 f hf, wr_ne _ _ _ (by decide)]; exact k3 f hf
            refine ⟨s4, rfl, ?_⟩
            rcases e4 : stopS T n p3 with ⟨k, q⟩ | p4
            · exact LM_bad ho (fun f hf => hk f (c17 hf)) (i4 k q e4) (z0.trans ((bS_r e3).trans (bS_l e4)))
            · have z4 : lineS T n p B r = Sum.inr (Sum.inl (i, x), p4) := z0.trans ((bS_r e3).trans (bS_r e4))
              unfold LM
              rw [z4]
              exact ⟨ho, fun f hf => hk f (c17 hf), (fun k q hq => by cases hq), (fun i x p' hq => by
                cases hq
                exact ⟨u4 _ e4, by rw [hk 17 rfl]; exact h17, by rw [m4.1 193 (by decide), wr_at, o3 193 (by decide) (by decide)], by rw [m4.1 194 (by decide), wr_ne _ _ _ (by decide)]; exact h94, by rw [m4.1 196 (by decide), wr_ne _ _ _ (by decide), o3 196 (by decide) (by decide)]⟩), (fun w p' hq => by cases hq)⟩
        · have hbad : tkOK T n (tkB T n (tkE T n (tkB T n p))) = false := by
            cases hk : tkOK T n (tkB T n (tkE T n (tkB T n p))) with
            | false => rfl
            | true => exact absurd (g2.2.2.2.1 hk).1 c25
          have f := FD_bad g2 hbad
          rw [if_neg c25, dd_133 (FD_pos f)]
          exact ⟨s2, rfl, LM_badW m2 f (z0.trans (bS_l (numS_f hbad _ _)))⟩
end LNM
