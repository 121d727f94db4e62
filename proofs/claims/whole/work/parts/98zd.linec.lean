/-! RULES: the class reads a line -/
/-- what a line that was read leaves in the class -/
def LC (T : Nat → Int32) (n p B r : Nat) (s : mSt) (v : Int32) (s' : mSt) : Prop :=
  (∀ c, c ≠ 12 → (c < 14 ∨ 24 < c) → s' c = s c) ∧ (∀ k q, lineS T n p B r = Sum.inl (k, q) → v = 0 ∧ CF k q s') ∧
  (∀ i x p', lineS T n p B r = Sum.inr (Sum.inl (i, x), p') → v = 1 ∧ CG T n p' s' ∧ s' 12 9 = nn (B ||| 2 ^ i) ∧ s' 14 2 = nn r ∧ s' 15 = upd (s 15) i x ∧ ∀ c, 17 ≤ c → c ≤ 24 → s' c = s c) ∧
  (∀ w p', lineS T n p B r = Sum.inr (Sum.inr w, p') → v = 1 ∧ CG T n p' s' ∧ s' 12 9 = nn B ∧ s' 14 2 = nn (r + 1) ∧ s' 15 = s 15 ∧ (∀ j, j < 6 → s' (17 + r) j = w j) ∧ ∀ c, c ≠ 17 + r → 17 ≤ c → c ≤ 24 → s' c = s c)
section LNC
variable {T : Nat → Int32} {n p B r : Nat} {s : mSt}
theorem LC_bad {k q : Nat} {s' : mSt} (ho : ∀ c, c ≠ 12 → (c < 14 ∨ 24 < c) → s' c = s c) (hf : CF k q s') (z : lineS T n p B r = Sum.inl (k, q)) : LC T n p B r s 0 s' := by
  unfold LC
  rw [z]
  exact ⟨ho, (fun k q hq => by cases hq; exact ⟨rfl, hf⟩), (fun i x p' hq => by cases hq), (fun w p' hq => by cases hq)⟩
/-- the name, as the class finds it -/
theorem whichC (hn : n ≤ 240) (hp : p ≤ n) (g : CG T n (tkE T n (tkB T n p)) s) (h6 : s 12 6 = tkS T n (tkB T n p)) (h7 : s 12 7 = nn (tkB T n p)) : rd_readLine s = if tkN T n p = 8 then (bI (rd_readRent s) fun v2 s2 => gd (bz v2) (rI v2 s2)) else rd_readLine_39 s (if wb (tkN T n p) 0 7 = 0 then 8 else tkN T n p) := by
  have b1 := tkB_le (T := T) hp
  have b2 := tkE_le (T := T) b1.2
  rw [rd_readLine_eq, h6, rd_readLine_22_eq, h6]
  by_cases c : tkS T n (tkB T n p) = 1
  · have en : tkN T n p = nmV T (tkB T n p) (tkE T n (tkB T n p)) := by unfold tkN; rw [if_pos c]
    have ew : (decide (tkE T n (tkB T n p) - tkB T n p = 4) && mtB s (tkB T n p) [114, 101, 110, 116]) = wqT T (tkB T n p) (tkE T n (tkB T n p)) [114, 101, 110, 116] := by rw [mt_T, g.1]; rfl
    rw [if_pos c, wd_240 g.2.2.1 h7 b2.1 (by omega), bI_rI, bi_if, ew, en, rd_readLine_22_eq, h6, if_pos c, namedC g.1 g.2.2.1 h7 b2.1 (by omega), bI_rI]
    by_cases w : wqT T (tkB T n p) (tkE T n (tkB T n p)) [114, 101, 110, 116] = true
    · rw [if_pos w, if_pos (nm_rent w)]
    · rw [if_neg w, if_neg (nm_else w).1, (nm_else w).2]
  · have en : tkN T n p = -4 := by unfold tkN; rw [if_neg c]
    rw [if_neg c, if_neg c, en, if_neg (by decide), if_pos (by decide)]
theorem ls8 : ∀ i : Fin 8, ([0, 0, 0, 0, 0, 1, 1, 1].getD i.val 0 : Int32) = lstV (nn i.val) := by decide
theorem ms8 : ∀ i : Fin 8, ([999, 999, 20, 20, 20, 50, 20, 20].getD i.val 0 : Int32) = mstV (nn i.val) := by decide
theorem lineC (hn : n ≤ 240) (hp : p ≤ n) (g : CG T n (tkE T n (tkB T n p)) s) (h6 : s 12 6 = tkS T n (tkB T n p)) (h7 : s 12 7 = nn (tkB T n p)) (hB : B < 256) (h9 : s 12 9 = nn B) (hr : r ≤ 8) (h14 : s 14 2 = nn r) : ∃ v s', rd_readLine s = rI v s' ∧ LC T n p B r s v s' := by
  have b1 := tkB_le (T := T) hp
  have b2 := tkE_le (T := T) b1.2
  rw [whichC hn hp g h6 h7]
  have fl : ∀ k, 1 ≤ k → k ≤ 5 → lineS T n p B r = Sum.inl (k, tkB T n p) → ∃ s', rd_fail s (nn k) = rI 0 s' ∧ LC T n p B r s 0 s' := fun k h1 h5 z => by
    obtain ⟨s', a1, -, a3, a4⟩ := failC h7 h1 h5
    exact ⟨s', a1, LC_bad (fun c hc _ => a3 c hc) a4 z⟩
  by_cases c8 : tkN T n p = 8
  · rw [if_pos c8]
    by_cases hr8 : r < 8
    · have z : lineS T n p B r = bS (rentS T n (tkE T n (tkB T n p))) fun x => Sum.inr (Sum.inr x.1, x.2) := by unfold lineS; rw [if_pos c8, if_pos hr8]
      obtain ⟨v, s', a1, a2, a3, a4, a5⟩ := rentC hn b2.2 g hr8 h14
      rw [a1, bI_rI]
      have ho : ∀ c, c ≠ 12 → (c < 14 ∨ 24 < c) → s' c = s c := fun c h1 h2 => a3 c h1 (by omega) (by omega)
      rcases e : rentS T n (tkE T n (tkB T n p)) with ⟨k, q⟩ | ⟨w, p'⟩
      · obtain ⟨zv, f⟩ := a4 k q e
        rw [zv, gz0]
        exact ⟨0, s', rfl, LC_bad ho f (z.trans (bS_l e))⟩
      · obtain ⟨zv, g', t14, hw⟩ := a5 w p' e
        have z2 : lineS T n p B r = Sum.inr (Sum.inr w, p') := z.trans (bS_r e)
        rw [zv, gz1]
        refine ⟨1, s', rfl, ?_⟩
        unfold LC
        rw [z2]
        exact ⟨ho, (fun k q hq => by cases hq), (fun i x p' hq => by cases hq), (fun w p' hq => by
          cases hq
          exact ⟨rfl, g', by rw [a2]; exact h9, t14, a3 15 (by decide) (by decide) (by omega), hw, fun c h1 h2 h3 => a3 c (by omega) (by omega) h1⟩)⟩
    · have z : lineS T n p B r = Sum.inl (5, tkB T n p) := by unfold lineS; rw [if_pos c8, if_neg hr8]
      obtain ⟨s', a1, a2⟩ := fl 5 (by omega) (by omega) z
      have a1 : rd_fail s 5 = rI 0 s' := a1
      rw [rd_readRent_eq, h14, if_neg (show ¬ nn r < 8 from nlt (j := 8) (by omega) (by omega)), a1, bI_rI, gz0, bI_rI, gz0]
      exact ⟨0, s', rfl, a2⟩
  · rw [if_neg c8]
    by_cases cw : wb (tkN T n p) 0 7 = 0
    · have z : lineS T n p B r = Sum.inl (2, tkB T n p) := by unfold lineS; rw [if_neg c8, if_pos cw]
      obtain ⟨s', a1, a2⟩ := fl 2 (by omega) (by omega) z
      have a1 : rd_fail s 2 = rI 0 s' := a1
      rw [if_pos cw, rd_readLine_39_eq, if_pos rfl, a1, bI_rI, gz0]
      exact ⟨0, s', rfl, a2⟩
    · rw [if_neg cw]
      have e0 : (0 : Int32).toInt = 0 := rfl
      have e7 : (7 : Int32).toInt = 7 := rfl
      obtain ⟨i, ei, hi, hi2, -⟩ := nn_of (x := tkN T n p) (b := 7) ⟨by have := wb_n cw; omega, by have := wb_n cw; omega⟩
      have hi8 : i < 8 := by omega
      have z0 : lineS T n p B r = if B.testBit i = true then Sum.inl (4, tkB T n p) else bS (numS T n (tkE T n (tkB T n p)) (lstV (nn i)) (mstV (nn i))) fun x => bS (stopS T n x.2) fun p' => Sum.inr (Sum.inl (i, x.1), p') := by
        unfold lineS
        rw [if_neg c8, if_neg cw, ei, nn_n (by omega)]
      rw [ei, rd_readLine_39_eq, if_neg (show ¬ nn i = 8 from fun y => by have := (nn_eq (j := 8) (by omega) (by omega)).mp y; omega), h9]
      by_cases cb : B.testBit i = true
      · rw [if_pos cb] at z0
        obtain ⟨s', a1, a2⟩ := fl 4 (by omega) (by omega) z0
        have a1 : rd_fail s 4 = rI 0 s' := a1
        rw [if_pos ((bis1 hB hi8).mpr cb), a1, bI_rI, gz0]
        exact ⟨0, s', rfl, a2⟩
      · rw [if_neg cb] at z0
        have l8 : ([0, 0, 0, 0, 0, 1, 1, 1].getD i 0 : Int32) = lstV (nn i) := ls8 ⟨i, hi8⟩
        have m8 : ([999, 999, 20, 20, 20, 50, 20, 20].getD i 0 : Int32) = mstV (nn i) := ms8 ⟨i, hi8⟩
        rw [if_neg (fun y => cb ((bis1 hB hi8).mp y)), nn_b (i := i) (n := 8) hi8 (by decide), gd_t, gd_t, nn_n (by omega), bor hB hi8, l8, m8]
        have g1 : CG T n (tkE T n (tkB T n p)) (wr s 12 9 (nn (B ||| 2 ^ i))) := ⟨by rw [wr_ne _ _ _ (by decide)]; exact g.1, by rw [wr_at, upd_ne (by decide)]; exact g.2.1, by rw [wr_at, upd_ne (by decide)]; exact g.2.2.1, by rw [wr_at, upd_ne (by decide)]; exact g.2.2.2⟩
        have o1 : ∀ c, c ≠ 12 → wr s 12 9 (nn (B ||| 2 ^ i)) c = s c := fun c hc => wr_ne _ _ _ hc
        have n1 : wr s 12 9 (nn (B ||| 2 ^ i)) 12 9 = nn (B ||| 2 ^ i) := by rw [wr_at, upd_at]
        generalize wr s 12 9 (nn (B ||| 2 ^ i)) = s1 at *
        obtain ⟨v2, s2, a2, n2, c2, i2, u2⟩ := numC15 hn b2.2 g1 hi8 (lstV (nn i)) (mstV (nn i))
        rw [a2, bI_rI]
        have ho2 : ∀ c, c ≠ 12 → (c < 14 ∨ 24 < c) → s2 c = s c := fun c h1 h2 => (c2 c h1 (by omega)).trans (o1 c h1)
        rcases e2 : numS T n (tkE T n (tkB T n p)) (lstV (nn i)) (mstV (nn i)) with ⟨k, q⟩ | ⟨x, p2⟩
        · obtain ⟨zv, f⟩ := i2 k q e2
          rw [zv, if_pos rfl]
          exact ⟨0, s2, rfl, LC_bad ho2 f (z0.trans (bS_l e2))⟩
        · obtain ⟨zv, g2, h15⟩ := u2 x p2 e2
          have l2 := (numS_r b2.2 e2).2.1
          rw [zv, if_neg (by decide)]
          obtain ⟨v3, s3, a3, n3, c3, i3, u3⟩ := stopC hn l2 g2
          rw [a3, bI_rI]
          have ho3 : ∀ c, c ≠ 12 → (c < 14 ∨ 24 < c) → s3 c = s c := fun c h1 h2 => (c3 c h1).trans (ho2 c h1 h2)
          rcases e3 : stopS T n p2 with ⟨k, q⟩ | p3
          · obtain ⟨zv, f⟩ := i3 k q e3
            rw [zv, if_pos rfl]
            exact ⟨0, s3, rfl, LC_bad ho3 f (z0.trans ((bS_r e2).trans (bS_l e3)))⟩
          · obtain ⟨zv, g3⟩ := u3 p3 e3
            have z3 : lineS T n p B r = Sum.inr (Sum.inl (i, x), p3) := z0.trans ((bS_r e2).trans (bS_r e3))
            rw [zv, if_neg (by decide)]
            refine ⟨1, s3, rfl, ?_⟩
            unfold LC
            rw [z3]
            exact ⟨ho3, (fun k q hq => by cases hq), (fun i x p' hq => by
              cases hq
              exact ⟨rfl, g3, by rw [n3, n2]; exact n1, by rw [c3 14 (by decide), c2 14 (by decide) (by decide), o1 14 (by decide)]; exact h14, by rw [c3 15 (by decide), h15, o1 15 (by decide)], fun c h1 h2 => by rw [c3 c (by omega), c2 c (by omega) (by omega), o1 c (by omega)]⟩), (fun w p' hq => by cases hq)⟩
end LNC
