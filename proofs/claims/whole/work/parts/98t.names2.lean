/-! RULES: the name now, the reference (gen98t.py) -/
def nmV (T : Nat → Int32) (q e : Nat) : Int32 := if wqT T q e [115, 101, 110, 100] = true then 0 else if wqT T q e [110, 101, 101, 100] = true then 1 else if wqT T q e [108, 111, 115, 115] = true then 2 else if wqT T q e [115, 112, 108, 105, 99, 101] = true then 3 else if wqT T q e [97, 103, 101] = true then 4 else if wqT T q e [114, 111, 111, 109] = true then 5 else if wqT T q e [109, 101, 110, 100] = true then 6 else if wqT T q e [115, 97, 105, 108] = true then 7 else if wqT T q e [114, 101, 110, 116] = true then 8 else if wqT T q e [102, 114, 111, 109] = true then 9 else if wqT T q e [116, 111] = true then 10 else if wqT T q e [102, 111, 114] = true then 11 else -4
section NM2
variable {T : Nat → Int32} {n q e : Nat} {s : mSt}
theorem is_send (hn : n ≤ 240) (hT : s 197 = T) (h20 : s 183 20 = nn n) (h21 : s 183 21 = nn e) (h22 : s 183 22 = nn q) (hqe : q ≤ e) (he : e ≤ n) (h23 : s 183 23 = 1) : mo_is s 4 115 101 110 100 = rI (bi (wqT T q e [115, 101, 110, 100])) s := by
  refine (isM hn hT h20 h21 h22 hqe he h23 (L := 4) (by omega) (by omega) 115 101 110 100).trans ?_
  show _ = rI (bi (decide (e - q = 4) && (decide (T q = 115) && (decide (T (q + 1) = 101) && (decide (T (q + 2) = 110) && (decide (T (q + 3) = 100) && true)))))) s
  rw [Bool.and_true (decide (T (q + 3) = 100))]
  rfl
theorem is_need (hn : n ≤ 240) (hT : s 197 = T) (h20 : s 183 20 = nn n) (h21 : s 183 21 = nn e) (h22 : s 183 22 = nn q) (hqe : q ≤ e) (he : e ≤ n) (h23 : s 183 23 = 1) : mo_is s 4 110 101 101 100 = rI (bi (wqT T q e [110, 101, 101, 100])) s := by
  refine (isM hn hT h20 h21 h22 hqe he h23 (L := 4) (by omega) (by omega) 110 101 101 100).trans ?_
  show _ = rI (bi (decide (e - q = 4) && (decide (T q = 110) && (decide (T (q + 1) = 101) && (decide (T (q + 2) = 101) && (decide (T (q + 3) = 100) && true)))))) s
  rw [Bool.and_true (decide (T (q + 3) = 100))]
  rfl
theorem is_loss (hn : n ≤ 240) (hT : s 197 = T) (h20 : s 183 20 = nn n) (h21 : s 183 21 = nn e) (h22 : s 183 22 = nn q) (hqe : q ≤ e) (he : e ≤ n) (h23 : s 183 23 = 1) : mo_is s 4 108 111 115 115 = rI (bi (wqT T q e [108, 111, 115, 115])) s := by
  refine (isM hn hT h20 h21 h22 hqe he h23 (L := 4) (by omega) (by omega) 108 111 115 115).trans ?_
  show _ = rI (bi (decide (e - q = 4) && (decide (T q = 108) && (decide (T (q + 1) = 111) && (decide (T (q + 2) = 115) && (decide (T (q + 3) = 115) && true)))))) s
  rw [Bool.and_true (decide (T (q + 3) = 115))]
  rfl
theorem is_age (hn : n ≤ 240) (hT : s 197 = T) (h20 : s 183 20 = nn n) (h21 : s 183 21 = nn e) (h22 : s 183 22 = nn q) (hqe : q ≤ e) (he : e ≤ n) (h23 : s 183 23 = 1) : mo_is s 3 97 103 101 0 = rI (bi (wqT T q e [97, 103, 101])) s := by
  refine (isM hn hT h20 h21 h22 hqe he h23 (L := 3) (by omega) (by omega) 97 103 101 0).trans ?_
  show _ = rI (bi (decide (e - q = 3) && (decide (T q = 97) && (decide (T (q + 1) = 103) && (decide (T (q + 2) = 101) && true))))) s
  rfl
theorem is_room (hn : n ≤ 240) (hT : s 197 = T) (h20 : s 183 20 = nn n) (h21 : s 183 21 = nn e) (h22 : s 183 22 = nn q) (hqe : q ≤ e) (he : e ≤ n) (h23 : s 183 23 = 1) : mo_is s 4 114 111 111 109 = rI (bi (wqT T q e [114, 111, 111, 109])) s := by
  refine (isM hn hT h20 h21 h22 hqe he h23 (L := 4) (by omega) (by omega) 114 111 111 109).trans ?_
  show _ = rI (bi (decide (e - q = 4) && (decide (T q = 114) && (decide (T (q + 1) = 111) && (decide (T (q + 2) = 111) && (decide (T (q + 3) = 109) && true)))))) s
  rw [Bool.and_true (decide (T (q + 3) = 109))]
  rfl
theorem is_mend (hn : n ≤ 240) (hT : s 197 = T) (h20 : s 183 20 = nn n) (h21 : s 183 21 = nn e) (h22 : s 183 22 = nn q) (hqe : q ≤ e) (he : e ≤ n) (h23 : s 183 23 = 1) : mo_is s 4 109 101 110 100 = rI (bi (wqT T q e [109, 101, 110, 100])) s := by
  refine (isM hn hT h20 h21 h22 hqe he h23 (L := 4) (by omega) (by omega) 109 101 110 100).trans ?_
  show _ = rI (bi (decide (e - q = 4) && (decide (T q = 109) && (decide (T (q + 1) = 101) && (decide (T (q + 2) = 110) && (decide (T (q + 3) = 100) && true)))))) s
  rw [Bool.and_true (decide (T (q + 3) = 100))]
  rfl
theorem is_sail (hn : n ≤ 240) (hT : s 197 = T) (h20 : s 183 20 = nn n) (h21 : s 183 21 = nn e) (h22 : s 183 22 = nn q) (hqe : q ≤ e) (he : e ≤ n) (h23 : s 183 23 = 1) : mo_is s 4 115 97 105 108 = rI (bi (wqT T q e [115, 97, 105, 108])) s := by
  refine (isM hn hT h20 h21 h22 hqe he h23 (L := 4) (by omega) (by omega) 115 97 105 108).trans ?_
  show _ = rI (bi (decide (e - q = 4) && (decide (T q = 115) && (decide (T (q + 1) = 97) && (decide (T (q + 2) = 105) && (decide (T (q + 3) = 108) && true)))))) s
  rw [Bool.and_true (decide (T (q + 3) = 108))]
  rfl
theorem is_rent (hn : n ≤ 240) (hT : s 197 = T) (h20 : s 183 20 = nn n) (h21 : s 183 21 = nn e) (h22 : s 183 22 = nn q) (hqe : q ≤ e) (he : e ≤ n) (h23 : s 183 23 = 1) : mo_is s 4 114 101 110 116 = rI (bi (wqT T q e [114, 101, 110, 116])) s := by
  refine (isM hn hT h20 h21 h22 hqe he h23 (L := 4) (by omega) (by omega) 114 101 110 116).trans ?_
  show _ = rI (bi (decide (e - q = 4) && (decide (T q = 114) && (decide (T (q + 1) = 101) && (decide (T (q + 2) = 110) && (decide (T (q + 3) = 116) && true)))))) s
  rw [Bool.and_true (decide (T (q + 3) = 116))]
  rfl
theorem is_from (hn : n ≤ 240) (hT : s 197 = T) (h20 : s 183 20 = nn n) (h21 : s 183 21 = nn e) (h22 : s 183 22 = nn q) (hqe : q ≤ e) (he : e ≤ n) (h23 : s 183 23 = 1) : mo_is s 4 102 114 111 109 = rI (bi (wqT T q e [102, 114, 111, 109])) s := by
  refine (isM hn hT h20 h21 h22 hqe he h23 (L := 4) (by omega) (by omega) 102 114 111 109).trans ?_
  show _ = rI (bi (decide (e - q = 4) && (decide (T q = 102) && (decide (T (q + 1) = 114) && (decide (T (q + 2) = 111) && (decide (T (q + 3) = 109) && true)))))) s
  rw [Bool.and_true (decide (T (q + 3) = 109))]
  rfl
theorem is_to (hn : n ≤ 240) (hT : s 197 = T) (h20 : s 183 20 = nn n) (h21 : s 183 21 = nn e) (h22 : s 183 22 = nn q) (hqe : q ≤ e) (he : e ≤ n) (h23 : s 183 23 = 1) : mo_is s 2 116 111 0 0 = rI (bi (wqT T q e [116, 111])) s := by
  refine (isM hn hT h20 h21 h22 hqe he h23 (L := 2) (by omega) (by omega) 116 111 0 0).trans ?_
  show _ = rI (bi (decide (e - q = 2) && (decide (T q = 116) && (decide (T (q + 1) = 111) && true)))) s
  rfl
theorem is_for (hn : n ≤ 240) (hT : s 197 = T) (h20 : s 183 20 = nn n) (h21 : s 183 21 = nn e) (h22 : s 183 22 = nn q) (hqe : q ≤ e) (he : e ≤ n) (h23 : s 183 23 = 1) : mo_is s 3 102 111 114 0 = rI (bi (wqT T q e [102, 111, 114])) s := by
  refine (isM hn hT h20 h21 h22 hqe he h23 (L := 3) (by omega) (by omega) 102 111 114 0).trans ?_
  show _ = rI (bi (decide (e - q = 3) && (decide (T q = 102) && (decide (T (q + 1) = 111) && (decide (T (q + 2) = 114) && true))))) s
  rfl
theorem nameM (hn : n ≤ 240) (hT : s 197 = T) (h20 : s 183 20 = nn n) (h21 : s 183 21 = nn e) (h22 : s 183 22 = nn q) (hqe : q ≤ e) (he : e ≤ n) (h23 : s 183 23 = 1) : mo_nameNow s = rI (nmV T q e) s := by
  have lk : ∀ x, x < n → mo_look s (nn x) = rI (T x) s := fun x hx => by
    rw [lookM hn hT h20 (by omega)]
    unfold lkT
    rw [if_pos hx]
  have h103 : mo_nameNow_103 s = rI (if wqT T q e [97, 103, 101] = true then (4 : Int32) else if wqT T q e [114, 111, 111, 109] = true then (5 : Int32) else if wqT T q e [109, 101, 110, 100] = true then (6 : Int32) else if wqT T q e [115, 97, 105, 108] = true then (7 : Int32) else if wqT T q e [114, 101, 110, 116] = true then (8 : Int32) else if wqT T q e [102, 114, 111, 109] = true then (9 : Int32) else if wqT T q e [116, 111] = true then (10 : Int32) else if wqT T q e [102, 111, 114] = true then (11 : Int32) else -4) s := by
    rw [mo_nameNow_103_eq, is_age hn hT h20 h21 h22 hqe he h23, bI_rI, bi_if, is_room hn hT h20 h21 h22 hqe he h23, bI_rI, bi_if, is_mend hn hT h20 h21 h22 hqe he h23, bI_rI, bi_if, is_sail hn hT h20 h21 h22 hqe he h23, bI_rI, bi_if, is_rent hn hT h20 h21 h22 hqe he h23, bI_rI, bi_if, is_from hn hT h20 h21 h22 hqe he h23, bI_rI, bi_if, is_to hn hT h20 h21 h22 hqe he h23, bI_rI, bi_if, is_for hn hT h20 h21 h22 hqe he h23, bI_rI, bi_if]
    repeat (split; · rfl)
    rfl
  have hsp : wqT T q e [115, 112, 108, 105, 99, 101] = (decide (e - q = 6) && (decide (T q = 115) && (decide (T (q + 1) = 112) && (decide (T (q + 2) = 108) && (decide (T (q + 3) = 105) && (decide (T (q + 4) = 99) && (decide (T (q + 5) = 101) && true))))))) := rfl
  have i6 : mo_is s 6 115 112 108 105 = rI (bi (decide (e - q = 6) && (decide (T q = 115) && (decide (T (q + 1) = 112) && (decide (T (q + 2) = 108) && decide (T (q + 3) = 105)))))) s := isM hn hT h20 h21 h22 hqe he h23 (L := 6) (by omega) (by omega) 115 112 108 105
  unfold nmV
  rw [mo_nameNow_eq, is_send hn hT h20 h21 h22 hqe he h23, bI_rI, bi_if, is_need hn hT h20 h21 h22 hqe he h23, bI_rI, bi_if, is_loss hn hT h20 h21 h22 hqe he h23, bI_rI, bi_if, i6, bI_rI, bi_if, h103]
  have spl : (if (decide (e - q = 6) && (decide (T q = 115) && (decide (T (q + 1) = 112) && (decide (T (q + 2) = 108) && decide (T (q + 3) = 105))))) = true then (bI (mo_look s (s 183 22 + 4)) fun v5 s5 => if v5 = 99 then bI (mo_look s5 (s5 183 22 + 5)) fun v6 s6 => if v6 = 101 then rI 3 s6 else mo_nameNow_103 s6 else mo_nameNow_103 s5) else mo_nameNow_103 s) = if wqT T q e [115, 112, 108, 105, 99, 101] = true then rI 3 s else mo_nameNow_103 s := by
    rw [hsp]
    by_cases c0 : (decide (e - q = 6) && (decide (T q = 115) && (decide (T (q + 1) = 112) && (decide (T (q + 2) = 108) && decide (T (q + 3) = 105))))) = true
    · have hl : e - q = 6 := of_decide_eq_true (Bool.and_eq_true_iff.mp c0).1
      rw [if_pos c0, h22, show nn q + 4 = nn (q + 4) from nn_a q 4, lk (q + 4) (by omega), bI_rI, h22, show nn q + 5 = nn (q + 5) from nn_a q 5, lk (q + 5) (by omega), bI_rI]
      obtain ⟨d0, d1⟩ := Bool.and_eq_true_iff.mp c0
      obtain ⟨d1, d2⟩ := Bool.and_eq_true_iff.mp d1
      obtain ⟨d2, d3⟩ := Bool.and_eq_true_iff.mp d2
      obtain ⟨d3, d4⟩ := Bool.and_eq_true_iff.mp d3
      rw [d0, d1, d2, d3, d4]
      by_cases c4 : T (q + 4) = 99
      · rw [if_pos c4, decide_eq_true c4]
        by_cases c5 : T (q + 5) = 101
        · rw [if_pos c5, decide_eq_true c5]; rfl
        · rw [if_neg c5, decide_eq_false c5]; rfl
      · rw [if_neg c4, decide_eq_false c4]; rfl
    · rw [if_neg c0, if_neg (fun z => c0 (by
        obtain ⟨d0, d1⟩ := Bool.and_eq_true_iff.mp z
        obtain ⟨d1, d2⟩ := Bool.and_eq_true_iff.mp d1
        obtain ⟨d2, d3⟩ := Bool.and_eq_true_iff.mp d2
        obtain ⟨d3, d4⟩ := Bool.and_eq_true_iff.mp d3
        obtain ⟨d4, d5⟩ := Bool.and_eq_true_iff.mp d4
        rw [d0, d1, d2, d3, d4]; rfl))]
  rw [h103] at spl
  have rif : ∀ (b : Bool) (x y : Int32), (if b = true then rI x s else rI y s) = rI (if b = true then x else y) s := fun b x y => by cases b <;> rfl
  rw [spl, rif, rif, rif, rif]
end NM2
