/-! RULES: the reference reads the end of a line -/
section STL
variable {T : Nat → Int32} {n p : Nat} {s : mSt}
theorem stopLive (hn : n ≤ 240) (hB : ∀ j, 0 ≤ (T j).toInt) (hp : p ≤ n) (h : RT T n p s) (hok : tkOK T n (tkB T n p) = true) : ∃ s', mo_readLine_133 s = rV s' ∧ moW [21, 22, 23, 24, 25, 26] s s' ∧ (tkS T n (tkB T n p) ≠ 3 → FT n 2 (tkB T n p) s') ∧ (tkS T n (tkB T n p) = 3 → RT T n (tkE T n (tkB T n p)) s') := by
  obtain ⟨h1, h2, h3, h4, -⟩ := id h
  obtain ⟨f1, f2, f3, f4⟩ := h4 hok
  rw [mo_readLine_133_eq, if_pos f1, f3]
  by_cases c : tkS T n (tkB T n p) = 3
  · obtain ⟨s1, g1, g2, g3⟩ := nextRT hn hB hp h hok
    refine ⟨s1, ?_, g2, fun z => absurd c z, fun _ => g3⟩
    rw [if_pos c, mo_readLine_154_eq, ok_wants (by decide), bV_rV, g1, bV_rV]
  · obtain ⟨s1, g1, g2, g3, g4⟩ := failM (k := 2) h2 f1 h3
    have g1 : mo_wants s 0 2 = rV s1 := g1
    refine ⟨s1, ?_, g2, fun _ => g3, fun z => absurd z c⟩
    rw [if_neg c, mo_readLine_154_eq, g1, bV_rV, dd_next (FT_pos (by omega) (by omega) g3), bV_rV]
/-- a token that isn't one is a fault that stands -/
theorem RT_bad (h : RT T n p s) (hok : tkOK T n (tkB T n p) = false) : FT n 1 (tkB T n p) s := by
  obtain ⟨h1, h2, h3, -, h5⟩ := h
  exact ⟨h2, (h5 hok).1, (h5 hok).2⟩
end STL
