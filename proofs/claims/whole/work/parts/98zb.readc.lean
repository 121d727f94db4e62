/-! RULES: the class's readers (gen98zb.py) -/
theorem gz0 {x : mO} : gd (bz 0) x = x := by
  have : bz 0 = true := by decide
  rw [this]; rfl
theorem gz1 {x : mO} : gd (bz 1) x = x := by
  have : bz 1 = true := by decide
  rw [this]; rfl
/-- the class stands at place p, no fault -/
def CG (T : Nat → Int32) (n p : Nat) (s : mSt) : Prop := s 13 = T ∧ s 12 2 = nn n ∧ s 12 5 = nn p ∧ s 12 3 = 0
/-- a fault of kind k at place q stands -/
def CF (k q : Nat) (s : mSt) : Prop := s 12 3 = nn k ∧ s 12 4 = nn q ∧ 1 ≤ k ∧ k ≤ 5
section RDC
variable {T : Nat → Int32} {n p : Nat} {s : mSt}
theorem failC {q : Nat} (h7 : s 12 7 = nn q) {k : Nat} (h1 : 1 ≤ k) (h5 : k ≤ 5) : ∃ s', rd_fail s (nn k) = rI 0 s' ∧ s' 12 9 = s 12 9 ∧ (∀ c, c ≠ 12 → s' c = s c) ∧ CF k q s' := by
  refine ⟨wr (wr s 12 3 (nn k)) 12 4 (nn q), ?_, ?_, fun c hc => ?_, ?_, ?_, h1, h5⟩
  · rw [rd_fail_eq, h7]
  · rw [wr_at, upd_ne (by decide), wr_at, upd_ne (by decide)]
  · rw [wr_ne _ _ _ hc, wr_ne _ _ _ hc]
  · rw [wr_at, upd_ne (by decide), wr_at, upd_at]
  · rw [wr_at, upd_at]
theorem tokG (hn : n ≤ 240) (hp : p ≤ n) (h : CG T n p s) : ∃ s', rd_nextToken s = rI (bi (tkOK T n (tkB T n p))) s' ∧ (∀ a, a ≠ 12 → s' a = s a) ∧ s' 12 9 = s 12 9 ∧ s' 12 7 = nn (tkB T n p) ∧ (tkOK T n (tkB T n p) = true → CG T n (tkE T n (tkB T n p)) s' ∧ s' 12 6 = tkS T n (tkB T n p) ∧ (tkS T n (tkB T n p) = 2 → s' 12 8 = tkV T n (tkB T n p))) ∧ (tkOK T n (tkB T n p) = false → CF 1 (tkB T n p) s') := by
  obtain ⟨h1, h2, h3, h4⟩ := h
  obtain ⟨s', a1, a2, a3, a4, a5, a6, a7⟩ := tokC hn h1 h2 h3 hp
  exact ⟨s', a1, a2, a4, a5, fun hok => ⟨⟨by rw [a2 13 (by decide)]; exact h1, a3, (a6 hok).2.1, by rw [(a6 hok).1]; exact h4⟩, (a6 hok).2.2⟩, fun hok => ⟨(a7 hok).1, (a7 hok).2, by omega, by omega⟩⟩
theorem CG_w {s' : mSt} {c j : Nat} {v : Int32} (h12 : 12 ≠ c) (h13 : 13 ≠ c) (h : CG T n p s') : CG T n p (wr s' c j v) := by
  obtain ⟨h1, h2, h3, h4⟩ := h
  exact ⟨by rw [wr_ne _ _ _ h13]; exact h1, by rw [wr_ne _ _ _ h12]; exact h2, by rw [wr_ne _ _ _ h12]; exact h3, by rw [wr_ne _ _ _ h12]; exact h4⟩
theorem numC15 (hn : n ≤ 240) (hp : p ≤ n) (h : CG T n p s) {x : Nat} (hx : x < 8) (a b : Int32) : ∃ v s', rd_readNumber_15 s (nn x) a b = rI v s' ∧ s' 12 9 = s 12 9 ∧ (∀ c, c ≠ 12 → c ≠ 15 → s' c = s c) ∧ (∀ k q, numS T n p a b = Sum.inl (k, q) → v = 0 ∧ CF k q s') ∧ (∀ w p', numS T n p a b = Sum.inr (w, p') → v = 1 ∧ CG T n p' s' ∧ s' 15 = upd (s 15) x w) := by
  obtain ⟨s1, e1, eo, e9, e7, eg, eb⟩ := tokG hn hp h
  rw [rd_readNumber_15_eq, e1, bI_rI, bi_if]
  cases hok : tkOK T n (tkB T n p) with
  | false =>
    have z := numS_f hok a b
    rw [if_neg (by decide), z]
    exact ⟨0, s1, rfl, e9, fun c h1 _ => eo c h1, (fun k q hq => by cases hq; exact ⟨rfl, eb hok⟩), (fun w p' hq => by cases hq)⟩
  | true =>
    obtain ⟨g, f6, f8⟩ := eg hok
    have z := numS_t hok a b
    rw [if_pos rfl, f6, z]
    by_cases c : tkS T n (tkB T n p) = 2
    · rw [if_pos c, if_pos c, LLw, bI_rI, f8 c]
      by_cases w : wb (tkV T n (tkB T n p)) a b = 0
      · obtain ⟨s2, g1, g9, go, gf⟩ := failC (k := 3) e7 (by omega) (by omega)
        have g1 : rd_fail s1 3 = rI 0 s2 := g1
        rw [if_pos w, if_pos w, g1, bI_rI, gz0]
        exact ⟨0, s2, rfl, g9.trans e9, fun c h1 _ => (go c h1).trans (eo c h1), (fun k q hq => by cases hq; exact ⟨rfl, gf⟩), (fun w p' hq => by cases hq)⟩
      · rw [if_neg w, if_neg w, nn_b hx (by decide), gd_t, nn_n (by omega)]
        refine ⟨1, wr s1 15 x (tkV T n (tkB T n p)), rfl, ?_, fun c h1 h2 => ?_, (fun k q hq => by cases hq), (fun w p' hq => by
          cases hq
          exact ⟨rfl, CG_w (by decide) (by decide) g, by rw [wr_at, eo 15 (by decide)]⟩)⟩
        · rw [wr_ne _ _ _ (by decide)]; exact e9
        · rw [wr_ne _ _ _ h2]; exact eo c h1
    · obtain ⟨s2, g1, g9, go, gf⟩ := failC (k := 2) e7 (by omega) (by omega)
      have g1 : rd_fail s1 2 = rI 0 s2 := g1
      rw [if_neg c, if_neg c, g1, bI_rI, gz0]
      exact ⟨0, s2, rfl, g9.trans e9, fun c h1 _ => (go c h1).trans (eo c h1), (fun k q hq => by cases hq; exact ⟨rfl, gf⟩), (fun w p' hq => by cases hq)⟩
theorem numC16 (hn : n ≤ 240) (hp : p ≤ n) (h : CG T n p s) {r : Nat} (hr : r < 8) {x : Nat} (hx : x < 6) (a b : Int32) : ∃ v s', rd_readNumber_r16 s r (nn x) a b = rI v s' ∧ s' 12 9 = s 12 9 ∧ (∀ c, c ≠ 12 → c ≠ (17 + r) → s' c = s c) ∧ (∀ k q, numS T n p a b = Sum.inl (k, q) → v = 0 ∧ CF k q s') ∧ (∀ w p', numS T n p a b = Sum.inr (w, p') → v = 1 ∧ CG T n p' s' ∧ s' (17 + r) = upd (s (17 + r)) x w) := by
  obtain ⟨s1, e1, eo, e9, e7, eg, eb⟩ := tokG hn hp h
  rw [rd_readNumber_r16_eq, e1, bI_rI, bi_if]
  cases hok : tkOK T n (tkB T n p) with
  | false =>
    have z := numS_f hok a b
    rw [if_neg (by decide), z]
    exact ⟨0, s1, rfl, e9, fun c h1 _ => eo c h1, (fun k q hq => by cases hq; exact ⟨rfl, eb hok⟩), (fun w p' hq => by cases hq)⟩
  | true =>
    obtain ⟨g, f6, f8⟩ := eg hok
    have z := numS_t hok a b
    rw [if_pos rfl, f6, z]
    by_cases c : tkS T n (tkB T n p) = 2
    · rw [if_pos c, if_pos c, LLw, bI_rI, f8 c]
      by_cases w : wb (tkV T n (tkB T n p)) a b = 0
      · obtain ⟨s2, g1, g9, go, gf⟩ := failC (k := 3) e7 (by omega) (by omega)
        have g1 : rd_fail s1 3 = rI 0 s2 := g1
        rw [if_pos w, if_pos w, g1, bI_rI, gz0]
        exact ⟨0, s2, rfl, g9.trans e9, fun c h1 _ => (go c h1).trans (eo c h1), (fun k q hq => by cases hq; exact ⟨rfl, gf⟩), (fun w p' hq => by cases hq)⟩
      · rw [if_neg w, if_neg w, blt_t hr, gd_t, nn_b hx (by decide), gd_t, nn_n (by omega)]
        refine ⟨1, wr s1 (17 + r) x (tkV T n (tkB T n p)), rfl, ?_, fun c h1 h2 => ?_, (fun k q hq => by cases hq), (fun w p' hq => by
          cases hq
          exact ⟨rfl, CG_w (by omega) (by omega) g, by rw [wr_at, eo (17 + r) (by omega)]⟩)⟩
        · rw [wr_ne _ _ _ (by omega)]; exact e9
        · rw [wr_ne _ _ _ h2]; exact eo c h1
    · obtain ⟨s2, g1, g9, go, gf⟩ := failC (k := 2) e7 (by omega) (by omega)
      have g1 : rd_fail s1 2 = rI 0 s2 := g1
      rw [if_neg c, if_neg c, g1, bI_rI, gz0]
      exact ⟨0, s2, rfl, g9.trans e9, fun c h1 _ => (go c h1).trans (eo c h1), (fun k q hq => by cases hq; exact ⟨rfl, gf⟩), (fun w p' hq => by cases hq)⟩
theorem word241 (hn : n ≤ 240) (hp : p ≤ n) (h : CG T n p s) : ∃ v s', rd_readWord_241 s = rI v s' ∧ s' 12 9 = s 12 9 ∧ (∀ c, c ≠ 12 → s' c = s c) ∧ (∀ k q, wordS T n p 9 = Sum.inl (k, q) → v = 0 ∧ CF k q s') ∧ (∀ p', wordS T n p 9 = Sum.inr p' → v = 1 ∧ CG T n p' s') := by
  obtain ⟨s1, e1, eo, e9, e7, eg, eb⟩ := tokG hn hp h
  have b1 := tkB_le (T := T) hp
  have b2 := tkE_le (T := T) b1.2
  rw [rd_readWord_241_eq, e1, bI_rI, bi_if]
  obtain ⟨s2, g1, g9, go, gf⟩ := failC (k := 2) e7 (by omega) (by omega)
  have g1 : rd_fail s1 2 = rI 0 s2 := g1
  have g2 : rd_readWord_241_25 s1 = rI 0 s2 := by rw [rd_readWord_241_25_eq, g1, bI_rI, if_pos rfl]
  cases hok : tkOK T n (tkB T n p) with
  | false =>
    have z := wordS_f hok 9
    rw [if_neg (by decide), z]
    exact ⟨0, s1, rfl, e9, eo, (fun k q hq => by cases hq; exact ⟨rfl, eb hok⟩), (fun p' hq => by cases hq)⟩
  | true =>
    obtain ⟨g, f6, f8⟩ := eg hok
    have z := wordS_t hok 9
    rw [if_pos rfl, f6, z]
    by_cases c : tkS T n (tkB T n p) = 1
    · have en : tkN T n p = nmV T (tkB T n p) (tkE T n (tkB T n p)) := by unfold tkN; rw [if_pos c]
      have ew : (decide (tkE T n (tkB T n p) - tkB T n p = 4) && mtB s1 (tkB T n p) [102, 114, 111, 109]) = wqT T (tkB T n p) (tkE T n (tkB T n p)) [102, 114, 111, 109] := by rw [mt_T, g.1]; rfl
      rw [if_pos c, wd_241 g.2.2.1 e7 b2.1 (by omega), bI_rI, bi_if, ew, en]
      by_cases w : wqT T (tkB T n p) (tkE T n (tkB T n p)) [102, 114, 111, 109] = true
      · rw [if_pos w, if_pos (nm_from w)]
        exact ⟨1, s1, rfl, e9, eo, (fun k q hq => by cases hq), (fun p' hq => by cases hq; exact ⟨rfl, g⟩)⟩
      · rw [if_neg w, if_neg (nn_from w), g2]
        exact ⟨0, s2, rfl, g9.trans e9, fun c h1 => (go c h1).trans (eo c h1), (fun k q hq => by cases hq; exact ⟨rfl, gf⟩), (fun p' hq => by cases hq)⟩
    · have en : tkN T n p = -4 := by unfold tkN; rw [if_neg c]
      rw [if_neg c, en, if_neg (by decide), g2]
      exact ⟨0, s2, rfl, g9.trans e9, fun c h1 => (go c h1).trans (eo c h1), (fun k q hq => by cases hq; exact ⟨rfl, gf⟩), (fun p' hq => by cases hq)⟩
theorem word242 (hn : n ≤ 240) (hp : p ≤ n) (h : CG T n p s) : ∃ v s', rd_readWord_242 s = rI v s' ∧ s' 12 9 = s 12 9 ∧ (∀ c, c ≠ 12 → s' c = s c) ∧ (∀ k q, wordS T n p 10 = Sum.inl (k, q) → v = 0 ∧ CF k q s') ∧ (∀ p', wordS T n p 10 = Sum.inr p' → v = 1 ∧ CG T n p' s') := by
  obtain ⟨s1, e1, eo, e9, e7, eg, eb⟩ := tokG hn hp h
  have b1 := tkB_le (T := T) hp
  have b2 := tkE_le (T := T) b1.2
  rw [rd_readWord_242_eq, e1, bI_rI, bi_if]
  obtain ⟨s2, g1, g9, go, gf⟩ := failC (k := 2) e7 (by omega) (by omega)
  have g1 : rd_fail s1 2 = rI 0 s2 := g1
  have g2 : rd_readWord_242_25 s1 = rI 0 s2 := by rw [rd_readWord_242_25_eq, g1, bI_rI, if_pos rfl]
  cases hok : tkOK T n (tkB T n p) with
  | false =>
    have z := wordS_f hok 10
    rw [if_neg (by decide), z]
    exact ⟨0, s1, rfl, e9, eo, (fun k q hq => by cases hq; exact ⟨rfl, eb hok⟩), (fun p' hq => by cases hq)⟩
  | true =>
    obtain ⟨g, f6, f8⟩ := eg hok
    have z := wordS_t hok 10
    rw [if_pos rfl, f6, z]
    by_cases c : tkS T n (tkB T n p) = 1
    · have en : tkN T n p = nmV T (tkB T n p) (tkE T n (tkB T n p)) := by unfold tkN; rw [if_pos c]
      have ew : (decide (tkE T n (tkB T n p) - tkB T n p = 2) && mtB s1 (tkB T n p) [116, 111]) = wqT T (tkB T n p) (tkE T n (tkB T n p)) [116, 111] := by rw [mt_T, g.1]; rfl
      rw [if_pos c, wd_242 g.2.2.1 e7 b2.1 (by omega), bI_rI, bi_if, ew, en]
      by_cases w : wqT T (tkB T n p) (tkE T n (tkB T n p)) [116, 111] = true
      · rw [if_pos w, if_pos (nm_to w)]
        exact ⟨1, s1, rfl, e9, eo, (fun k q hq => by cases hq), (fun p' hq => by cases hq; exact ⟨rfl, g⟩)⟩
      · rw [if_neg w, if_neg (nn_to w), g2]
        exact ⟨0, s2, rfl, g9.trans e9, fun c h1 => (go c h1).trans (eo c h1), (fun k q hq => by cases hq; exact ⟨rfl, gf⟩), (fun p' hq => by cases hq)⟩
    · have en : tkN T n p = -4 := by unfold tkN; rw [if_neg c]
      rw [if_neg c, en, if_neg (by decide), g2]
      exact ⟨0, s2, rfl, g9.trans e9, fun c h1 => (go c h1).trans (eo c h1), (fun k q hq => by cases hq; exact ⟨rfl, gf⟩), (fun p' hq => by cases hq)⟩
theorem word243 (hn : n ≤ 240) (hp : p ≤ n) (h : CG T n p s) : ∃ v s', rd_readWord_243 s = rI v s' ∧ s' 12 9 = s 12 9 ∧ (∀ c, c ≠ 12 → s' c = s c) ∧ (∀ k q, wordS T n p 11 = Sum.inl (k, q) → v = 0 ∧ CF k q s') ∧ (∀ p', wordS T n p 11 = Sum.inr p' → v = 1 ∧ CG T n p' s') := by
  obtain ⟨s1, e1, eo, e9, e7, eg, eb⟩ := tokG hn hp h
  have b1 := tkB_le (T := T) hp
  have b2 := tkE_le (T := T) b1.2
  rw [rd_readWord_243_eq, e1, bI_rI, bi_if]
  obtain ⟨s2, g1, g9, go, gf⟩ := failC (k := 2) e7 (by omega) (by omega)
  have g1 : rd_fail s1 2 = rI 0 s2 := g1
  have g2 : rd_readWord_243_25 s1 = rI 0 s2 := by rw [rd_readWord_243_25_eq, g1, bI_rI, if_pos rfl]
  cases hok : tkOK T n (tkB T n p) with
  | false =>
    have z := wordS_f hok 11
    rw [if_neg (by decide), z]
    exact ⟨0, s1, rfl, e9, eo, (fun k q hq => by cases hq; exact ⟨rfl, eb hok⟩), (fun p' hq => by cases hq)⟩
  | true =>
    obtain ⟨g, f6, f8⟩ := eg hok
    have z := wordS_t hok 11
    rw [if_pos rfl, f6, z]
    by_cases c : tkS T n (tkB T n p) = 1
    · have en : tkN T n p = nmV T (tkB T n p) (tkE T n (tkB T n p)) := by unfold tkN; rw [if_pos c]
      have ew : (decide (tkE T n (tkB T n p) - tkB T n p = 3) && mtB s1 (tkB T n p) [102, 111, 114]) = wqT T (tkB T n p) (tkE T n (tkB T n p)) [102, 111, 114] := by rw [mt_T, g.1]; rfl
      rw [if_pos c, wd_243 g.2.2.1 e7 b2.1 (by omega), bI_rI, bi_if, ew, en]
      by_cases w : wqT T (tkB T n p) (tkE T n (tkB T n p)) [102, 111, 114] = true
      · rw [if_pos w, if_pos (nm_for w)]
        exact ⟨1, s1, rfl, e9, eo, (fun k q hq => by cases hq), (fun p' hq => by cases hq; exact ⟨rfl, g⟩)⟩
      · rw [if_neg w, if_neg (nn_for w), g2]
        exact ⟨0, s2, rfl, g9.trans e9, fun c h1 => (go c h1).trans (eo c h1), (fun k q hq => by cases hq; exact ⟨rfl, gf⟩), (fun p' hq => by cases hq)⟩
    · have en : tkN T n p = -4 := by unfold tkN; rw [if_neg c]
      rw [if_neg c, en, if_neg (by decide), g2]
      exact ⟨0, s2, rfl, g9.trans e9, fun c h1 => (go c h1).trans (eo c h1), (fun k q hq => by cases hq; exact ⟨rfl, gf⟩), (fun p' hq => by cases hq)⟩
theorem stopC (hn : n ≤ 240) (hp : p ≤ n) (h : CG T n p s) : ∃ v s', rd_readStop s = rI v s' ∧ s' 12 9 = s 12 9 ∧ (∀ c, c ≠ 12 → s' c = s c) ∧ (∀ k q, stopS T n p = Sum.inl (k, q) → v = 0 ∧ CF k q s') ∧ (∀ p', stopS T n p = Sum.inr p' → v = 1 ∧ CG T n p' s') := by
  obtain ⟨s1, e1, eo, e9, e7, eg, eb⟩ := tokG hn hp h
  rw [rd_readStop_eq, e1, bI_rI, bi_if]
  cases hok : tkOK T n (tkB T n p) with
  | false =>
    have z := stopS_f hok
    rw [if_neg (by decide), z]
    exact ⟨0, s1, rfl, e9, eo, (fun k q hq => by cases hq; exact ⟨rfl, eb hok⟩), (fun p' hq => by cases hq)⟩
  | true =>
    obtain ⟨g, f6, f8⟩ := eg hok
    have z := stopS_t hok
    rw [if_pos rfl, f6, z]
    by_cases c : tkS T n (tkB T n p) = 3
    · rw [if_pos c, if_pos c]
      exact ⟨1, s1, rfl, e9, eo, (fun k q hq => by cases hq), (fun p' hq => by cases hq; exact ⟨rfl, g⟩)⟩
    · obtain ⟨s2, g1, g9, go, gf⟩ := failC (k := 2) e7 (by omega) (by omega)
      have g1 : rd_fail s1 2 = rI 0 s2 := g1
      rw [if_neg c, if_neg c, g1, bI_rI, if_pos rfl]
      exact ⟨0, s2, rfl, g9.trans e9, fun c h1 => (go c h1).trans (eo c h1), (fun k q hq => by cases hq; exact ⟨rfl, gf⟩), (fun p' hq => by cases hq)⟩
theorem lt_i {q : Nat} (h : tkS T n q = 1) : q < n ∧ 97 ≤ (T q).toInt ∧ (T q).toInt ≤ 122 := by
  unfold tkS at h
  by_cases c0 : q < n
  · rw [if_pos c0] at h
    by_cases c1 : T q = 59
    · rw [if_pos c1] at h; exact absurd h (by decide)
    · rw [if_neg c1] at h
      by_cases c2 : ltT T q = true
      · have w : ¬ wb (T q) 97 122 = 0 := fun z => by unfold ltT at c2; rw [decide_eq_true z] at c2; cases c2
        have := wb_n w
        have e1 : (97 : Int32).toInt = 97 := rfl
        have e2 : (122 : Int32).toInt = 122 := rfl
        exact ⟨c0, by omega, by omega⟩
      · rw [if_neg c2] at h; exact absurd h (by decide)
  · rw [if_neg c0] at h; exact absurd h (by decide)
theorem houseC (hn : n ≤ 240) (hp : p ≤ n) (h : CG T n p s) {r : Nat} (hr : r < 8) : ∃ v s', rd_readHouse_r16 s r = rI v s' ∧ s' 12 9 = s 12 9 ∧ (∀ c, c ≠ 12 → c ≠ 17 + r → s' c = s c) ∧ (∀ k q, houseS T n p = Sum.inl (k, q) → v = 0 ∧ CF k q s') ∧ (∀ w p', houseS T n p = Sum.inr (w, p') → v = 1 ∧ CG T n p' s' ∧ s' (17 + r) = upd (s (17 + r)) 0 w) := by
  obtain ⟨s1, e1, eo, e9, e7, eg, eb⟩ := tokG hn hp h
  have b1 := tkB_le (T := T) hp
  have b2 := tkE_le (T := T) b1.2
  rw [rd_readHouse_r16_eq, e1, bI_rI, bi_if]
  obtain ⟨s2, g1, g9, go, gf⟩ := failC (k := 2) e7 (by omega) (by omega)
  have g1 : rd_fail s1 2 = rI 0 s2 := g1
  have g6 : ∀ t : Int32, ¬ t < 6 → rd_readHouse_r16_47 s1 r t = rI 0 s2 := fun t ht => by rw [rd_readHouse_r16_47_eq, if_neg ht, g1, bI_rI, gz0]
  have bad : houseS T n p = Sum.inl (2, tkB T n p) → ∃ v s', rI 0 s2 = rI v s' ∧ s' 12 9 = s 12 9 ∧ (∀ c, c ≠ 12 → c ≠ 17 + r → s' c = s c) ∧ (∀ k q, houseS T n p = Sum.inl (k, q) → v = 0 ∧ CF k q s') ∧ (∀ w p', houseS T n p = Sum.inr (w, p') → v = 1 ∧ CG T n p' s' ∧ s' (17 + r) = upd (s (17 + r)) 0 w) := fun z => by
    rw [z]
    exact ⟨0, s2, rfl, g9.trans e9, fun c h1 _ => (go c h1).trans (eo c h1), (fun k q hq => by cases hq; exact ⟨rfl, gf⟩), (fun w p' hq => by cases hq)⟩
  cases hok : tkOK T n (tkB T n p) with
  | false =>
    have z := houseS_f hok
    rw [if_neg (by decide), z]
    exact ⟨0, s1, rfl, e9, fun c h1 _ => eo c h1, (fun k q hq => by cases hq; exact ⟨rfl, eb hok⟩), (fun w p' hq => by cases hq)⟩
  | true =>
    obtain ⟨g, f6, f8⟩ := eg hok
    have z := houseS_t hok
    rw [if_pos rfl, f6]
    by_cases c : tkS T n (tkB T n p) = 1
    · obtain ⟨c0, l1, l2⟩ := lt_i c
      rw [if_pos c, g.2.2.1, e7, nn_d b2.1]
      by_cases c1 : tkE T n (tkB T n p) - tkB T n p = 1
      · rw [if_pos (by rw [c1]; rfl), nn_b (i := tkB T n p) (n := 240) (by omega) (by decide), gd_t, nn_n (by omega), g.1]
        have e97 : (97 : Int32).toInt = 97 := rfl
        have e102 : (102 : Int32).toInt = 102 := rfl
        have e6 : (6 : Int32).toInt = 6 := rfl
        have es := i32_sub (a := T (tkB T n p)) (b := 97) (by omega) (by omega)
        by_cases w : wb (T (tkB T n p)) 97 102 = 0
        · have w' := wb_y w
          rw [g6 _ (by rw [Int32.lt_iff_toInt_lt]; omega)]
          exact bad (by rw [z, if_neg (fun y => y.2.2 w)])
        · have w' := wb_n w
          rw [rd_readHouse_r16_47_eq, if_pos (by rw [Int32.lt_iff_toInt_lt]; omega), blt_t hr, gd_t, show inb 0 6 = true from nn_b (i := 0) (n := 6) (by omega) (by decide), gd_t, z, if_pos ⟨c, c1, w⟩]
          refine ⟨1, wr s1 (17 + r) 0 (T (tkB T n p) - 97), rfl, ?_, fun c h1 h2 => ?_, (fun k q hq => by cases hq), (fun w p' hq => by
            cases hq
            exact ⟨rfl, CG_w (by omega) (by omega) g, by rw [wr_at, eo (17 + r) (by omega)]⟩)⟩
          · rw [wr_ne _ _ _ (by omega)]; exact e9
          · rw [wr_ne _ _ _ h2]; exact eo c h1
      · rw [if_neg (show ¬ nn (tkE T n (tkB T n p) - tkB T n p) = (1 : Int32) from fun y => c1 ((nn_eq (j := 1) (by omega) (by omega)).mp y)), g6 6 (by decide)]
        exact bad (by rw [z, if_neg (fun y => c1 y.2.1)])
    · rw [if_neg c, g6 6 (by decide)]
      exact bad (by rw [z, if_neg (fun y => c y.1)])
end RDC
