/-! RULES: the reference's readers, a token ahead -/
/-- the token at place p is loaded -/
def RT (T : Nat → Int32) (n p : Nat) (s : mSt) : Prop := s 197 = T ∧ s 183 20 = nn n ∧ s 183 22 = nn (tkB T n p) ∧ (tkOK T n (tkB T n p) = true → s 183 25 = 0 ∧ s 183 21 = nn (tkE T n (tkB T n p)) ∧ s 183 23 = tkS T n (tkB T n p) ∧ (tkS T n (tkB T n p) = 2 → s 183 24 = tkV T n (tkB T n p))) ∧ (tkOK T n (tkB T n p) = false → s 183 25 = 1 ∧ s 183 26 = nn (tkB T n p))
section NUM
variable {T : Nat → Int32} {n p : Nat} {s : mSt}
theorem tkB_le (hp : p ≤ n) : p ≤ tkB T n p ∧ tkB T n p ≤ n := by
  have := fnd_bd (spT T) (n - p) p
  unfold tkB
  omega
theorem tkE_le {q : Nat} (hq : q ≤ n) : q ≤ tkE T n q ∧ tkE T n q ≤ n := by
  unfold tkE
  have h1 := fnd_bd (ltT T) (n - q) q
  have h2 := fnd_bd (dgT T) (n - q) q
  by_cases c : q < n
  · rw [if_pos c]
    split
    · omega
    · split <;> omega
  · rw [if_neg c]; omega
theorem nextRT (hn : n ≤ 240) (hB : ∀ j, 0 ≤ (T j).toInt) (hp : p ≤ n) (h : RT T n p s) (hok : tkOK T n (tkB T n p) = true) : ∃ s', mo_next s = rV s' ∧ moW [21, 22, 23, 24, 25, 26] s s' ∧ RT T n (tkE T n (tkB T n p)) s' := by
  obtain ⟨h1, h2, h3, h4, -⟩ := h
  obtain ⟨f1, f2, f3, f4⟩ := h4 hok
  have b1 := tkB_le (T := T) hp
  have b2 := tkE_le (T := T) b1.2
  obtain ⟨s', a1, a2, a3, a4, a5⟩ := tokM hn hB h1 h2 f2 f1 b2.2
  exact ⟨s', a1, a2, by rw [a2.1 197 (by decide)]; exact h1, by rw [a2.2 20 rfl]; exact h2, a3, a4, a5⟩
end NUM
