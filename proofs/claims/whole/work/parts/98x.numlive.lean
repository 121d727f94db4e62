/-! RULES: the reference reads a number -/
/-- a fault of kind k at place q stands -/
def FT (n : Nat) (k q : Nat) (s : mSt) : Prop := s 183 20 = nn n ∧ s 183 25 = nn k ∧ s 183 26 = nn q
section NML
variable {T : Nat → Int32} {n p : Nat} {s : mSt}
theorem failM (h20 : s 183 20 = nn n) (h25 : s 183 25 = 0) {q k : Nat} (h22 : s 183 22 = nn q) : ∃ s', mo_wants s 0 (nn k) = rV s' ∧ moW [21, 22, 23, 24, 25, 26] s s' ∧ FT n k q s' ∧ s' 183 24 = s 183 24 := by
  refine ⟨wr (wr s 183 25 (nn k)) 183 26 (nn q), ?_, moW_w rfl (moW_w rfl moW_rf), ⟨?_, ?_, ?_⟩, ?_⟩
  · rw [mo_wants_eq, if_pos rfl, if_pos h25, h22]
  · rw [wr_at, upd_ne (by decide), wr_at, upd_ne (by decide)]; exact h20
  · rw [wr_at, upd_ne (by decide), wr_at, upd_at]
  · rw [wr_at, upd_at]
  · rw [wr_at, upd_ne (by decide), wr_at, upd_ne (by decide)]
theorem FT_pos {k q : Nat} (hk : 0 < k) (hk2 : k < 100) (h : FT n k q s) : 0 < (s 183 25).toInt := by
  rw [h.2.1, nn_i (by omega)]; omega
theorem numLive (hn : n ≤ 240) (hB : ∀ j, 0 ≤ (T j).toInt) (hp : p ≤ n) (h : RT T n p s) (hok : tkOK T n (tkB T n p) = true) (a b : Int32) (hin : ∀ (s1 : mSt) (v : Int32), mo_in s1 v.toInt64 a.toInt64 b.toInt64 = rI (wb v a b) s1) : ∃ v s', mo_readNumber s a b = rI v s' ∧ moW [21, 22, 23, 24, 25, 26] s s' ∧ (tkS T n (tkB T n p) ≠ 2 → FT n 2 (tkB T n p) s') ∧ (tkS T n (tkB T n p) = 2 → (wb (tkV T n (tkB T n p)) a b = 0 → FT n 3 (tkB T n p) s') ∧ (wb (tkV T n (tkB T n p)) a b ≠ 0 → v = tkV T n (tkB T n p) ∧ RT T n (tkE T n (tkB T n p)) s')) := by
  obtain ⟨h1, h2, h3, h4, -⟩ := id h
  obtain ⟨f1, f2, f3, f4⟩ := h4 hok
  by_cases c : tkS T n (tkB T n p) = 2
  · by_cases w : wb (tkV T n (tkB T n p)) a b = 0
    · obtain ⟨s1, g1, g2, g3, g4⟩ := failM (k := 3) h2 f1 h3
      have g1 : mo_wants s 0 3 = rV s1 := g1
      refine ⟨s1 183 24, s1, ?_, g2, fun z => absurd c z, fun _ => ⟨fun _ => g3, fun z => absurd w z⟩⟩
      rw [mo_readNumber_eq, f3, if_pos c, mo_readNumber_14_eq, ok_wants (by decide), bV_rV, if_pos f1, f4 c, hin, bI_rI, w, g1, bV_rV, mo_readNumber_42_eq, dd_next (FT_pos (by omega) (by omega) g3), bV_rV]
    · obtain ⟨s1, g1, g2, g3⟩ := nextRT hn hB hp h hok
      refine ⟨tkV T n (tkB T n p), s1, ?_, g2, fun z => absurd c z, fun _ => ⟨fun z => absurd z w, fun _ => ⟨rfl, g3⟩⟩⟩
      rw [mo_readNumber_eq, f3, if_pos c, mo_readNumber_14_eq, ok_wants (by decide), bV_rV, if_pos f1, f4 c, hin, bI_rI, ok_wants w, bV_rV, mo_readNumber_42_eq, g1, bV_rV, f4 c]
  · obtain ⟨s1, g1, g2, g3, g4⟩ := failM (k := 2) h2 f1 h3
    have g1 : mo_wants s 0 2 = rV s1 := g1
    have hpos := FT_pos (by omega) (by omega) g3
    refine ⟨s1 183 24, s1, ?_, g2, fun _ => g3, fun z => absurd z c⟩
    rw [mo_readNumber_eq, f3, if_neg c, mo_readNumber_14_eq, g1, bV_rV, if_neg (dd_0 hpos), mo_readNumber_42_eq, dd_next hpos, bV_rV]
end NML
