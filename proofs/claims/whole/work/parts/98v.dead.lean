/-! RULES: after a fault the reference does nothing -/
section DED
variable {s : mSt}
theorem dd_0 (h : 0 < (s 183 25).toInt) : s 183 25 ≠ 0 := fun z => by
  rw [z] at h
  exact absurd h (by decide)
theorem dd_next (h : 0 < (s 183 25).toInt) : mo_next s = rV s := by
  rw [mo_next_eq, if_neg (fun z => by
    rw [Int32.le_iff_toInt_le] at z
    have e0 : (0 : Int32).toInt = 0 := rfl
    omega)]
theorem dd_wants (h : 0 < (s 183 25).toInt) (x y : Int32) : mo_wants s x y = rV s := by
  rw [mo_wants_eq, if_neg (dd_0 h)]
  split <;> rfl
theorem ok_wants {x : Int32} (hx : x ≠ 0) (y : Int32) : mo_wants s x y = rV s := by rw [mo_wants_eq, if_neg hx]
theorem dd_num (h : 0 < (s 183 25).toInt) (a b : Int32) : mo_readNumber s a b = rI (s 183 24) s := by
  have h14 : ∀ t0, mo_readNumber_14 s a b t0 = rI (s 183 24) s := fun t0 => by
    rw [mo_readNumber_14_eq, dd_wants h, bV_rV, if_neg (dd_0 h), mo_readNumber_42_eq, dd_next h, bV_rV]
  rw [mo_readNumber_eq, h14, h14]
  split <;> rfl
theorem dd_name (h : 0 < (s 183 25).toInt) (x : Int32) : mo_readName s x = rV s := by
  rw [mo_readName_eq, if_neg (dd_0 h), dd_next h, bV_rV]
theorem dd_133 (h : 0 < (s 183 25).toInt) : mo_readLine_133 s = rV s := by
  rw [mo_readLine_133_eq, if_neg (dd_0 h), dd_next h, bV_rV]
theorem dd_101 (h : 0 < (s 183 25).toInt) (x : Int32) : mo_readLine_101 s x = rV s := by
  rw [mo_readLine_101_eq, if_neg (dd_0 h), dd_133 h]
end DED
