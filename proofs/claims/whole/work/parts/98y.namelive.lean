/-! RULES: the reference reads a name -/
section NAL
variable {T : Nat → Int32} {n p : Nat} {s : mSt}
theorem name0 (h : s 183 23 ≠ 1) : mo_nameNow s = rI (-4) s := by
  rw [mo_nameNow_eq, is0 h, bI_rI, if_pos rfl, is0 h, bI_rI, if_pos rfl, is0 h, bI_rI, if_pos rfl, is0 h, bI_rI, if_pos rfl, mo_nameNow_103_eq, is0 h, bI_rI, if_pos rfl, is0 h, bI_rI, if_pos rfl, is0 h, bI_rI, if_pos rfl, is0 h, bI_rI, if_pos rfl, is0 h, bI_rI, if_pos rfl, is0 h, bI_rI, if_pos rfl, is0 h, bI_rI, if_pos rfl, is0 h, bI_rI, if_pos rfl]
/-- the name of the token at place p -/
def tkN (T : Nat → Int32) (n p : Nat) : Int32 := if tkS T n (tkB T n p) = 1 then nmV T (tkB T n p) (tkE T n (tkB T n p)) else -4
theorem nowM (hn : n ≤ 240) (hp : p ≤ n) (h : RT T n p s) (hok : tkOK T n (tkB T n p) = true) : mo_nameNow s = rI (tkN T n p) s := by
  obtain ⟨h1, h2, h3, h4, -⟩ := h
  obtain ⟨f1, f2, f3, f4⟩ := h4 hok
  have b1 := tkB_le (T := T) hp
  have b2 := tkE_le (T := T) b1.2
  unfold tkN
  by_cases c : tkS T n (tkB T n p) = 1
  · rw [if_pos c]
    exact nameM hn h1 h2 f2 h3 b2.1 b2.2 (by rw [f3]; exact c)
  · rw [if_neg c]
    exact name0 (by rw [f3]; exact c)
theorem nameLive (hn : n ≤ 240) (hB : ∀ j, 0 ≤ (T j).toInt) (hp : p ≤ n) (h : RT T n p s) (hok : tkOK T n (tkB T n p) = true) (x : Int32) : ∃ s', mo_readName s x = rV s' ∧ moW [21, 22, 23, 24, 25, 26] s s' ∧ (tkN T n p ≠ x → FT n 2 (tkB T n p) s') ∧ (tkN T n p = x → RT T n (tkE T n (tkB T n p)) s') := by
  obtain ⟨h1, h2, h3, h4, -⟩ := id h
  obtain ⟨f1, f2, f3, f4⟩ := h4 hok
  rw [mo_readName_eq, if_pos f1, nowM hn hp h hok, bI_rI]
  by_cases c : tkN T n p = x
  · obtain ⟨s1, g1, g2, g3⟩ := nextRT hn hB hp h hok
    refine ⟨s1, ?_, g2, fun z => absurd c z, fun _ => g3⟩
    rw [if_pos c, mo_readName_21_eq, ok_wants (by decide), bV_rV, g1, bV_rV]
  · obtain ⟨s1, g1, g2, g3, g4⟩ := failM (k := 2) h2 f1 h3
    have g1 : mo_wants s 0 2 = rV s1 := g1
    refine ⟨s1, ?_, g2, fun _ => g3, fun z => absurd z c⟩
    rw [if_neg c, mo_readName_21_eq, g1, bV_rV, dd_next (FT_pos (by omega) (by omega) g3), bV_rV]
end NAL
