/-! RULES: the word tests of the class (gen98r.py) -/
theorem mt_fold (s : mSt) : ∀ (l : List Int32) (q : Nat) (f : Nat → mO), (∀ i, i < l.length → f i = if s 13 (q + i) = l.getD i 0 then f (i + 1) else rI 0 s) → f l.length = rI 1 s → f 0 = rI (bi (mtB s q l)) s := by
  intro l
  induction l with
  | nil => intro q f _ h; exact h
  | cons c l ih =>
    intro q f h1 h2
    have h0 : f 0 = if s 13 q = c then f 1 else rI 0 s := h1 0 (Nat.succ_pos _)
    rw [h0]
    show _ = rI (bi (decide (s 13 q = c) && mtB s (q + 1) l)) s
    by_cases w : s 13 q = c
    · rw [if_pos w, decide_eq_true w, Bool.true_and]
      exact ih (q + 1) (fun i => f (i + 1)) (fun i hi => by
        have := h1 (i + 1) (Nat.succ_lt_succ hi)
        rw [show q + 1 + i = q + (i + 1) by omega]
        exact this) h2
    · rw [if_neg w, decide_eq_false w]; rfl
theorem wd_240 {s : mSt} {q e : Nat} (h5 : s 12 5 = nn e) (h7 : s 12 7 = nn q) (hqe : q ≤ e) (he : e ≤ 240) : rd_isWord_240 s = rI (bi (decide (e - q = 4) && mtB s q [114, 101, 110, 116])) s := by
  have ed : nn e - nn q = nn (e - q) := nn_d hqe
  rw [rd_isWord_240_eq, ln_240, bI_rI, h5, h7, ed]
  by_cases hl : e - q = 4
  · rw [if_pos (by rw [hl]; rfl), decide_eq_true hl, Bool.true_and]
    exact mt_fold s [114, 101, 110, 116] q (fun i => rd_isWord_240_20 s (nn i)) (fun i hi => by
      match i, hi with
      | 0, _ =>
        show rd_isWord_240_20 s (nn 0) = if s 13 (q + 0) = 114 then rd_isWord_240_20 s (nn (0 + 1)) else rI 0 s
        rw [rd_isWord_240_20_eq, ln_240, bI_rI, if_neg (by decide), h7, nn_a, nn_b (i := q + 0) (n := 240) (by omega) (by decide), gd_t, show sg_charAt_240 s (nn 0) = rI 114 s from ch_240_0 s, bI_rI, nn_n (by omega), nn_s]
      | 1, _ =>
        show rd_isWord_240_20 s (nn 1) = if s 13 (q + 1) = 101 then rd_isWord_240_20 s (nn (1 + 1)) else rI 0 s
        rw [rd_isWord_240_20_eq, ln_240, bI_rI, if_neg (by decide), h7, nn_a, nn_b (i := q + 1) (n := 240) (by omega) (by decide), gd_t, show sg_charAt_240 s (nn 1) = rI 101 s from ch_240_1 s, bI_rI, nn_n (by omega), nn_s]
      | 2, _ =>
        show rd_isWord_240_20 s (nn 2) = if s 13 (q + 2) = 110 then rd_isWord_240_20 s (nn (2 + 1)) else rI 0 s
        rw [rd_isWord_240_20_eq, ln_240, bI_rI, if_neg (by decide), h7, nn_a, nn_b (i := q + 2) (n := 240) (by omega) (by decide), gd_t, show sg_charAt_240 s (nn 2) = rI 110 s from ch_240_2 s, bI_rI, nn_n (by omega), nn_s]
      | 3, _ =>
        show rd_isWord_240_20 s (nn 3) = if s 13 (q + 3) = 116 then rd_isWord_240_20 s (nn (3 + 1)) else rI 0 s
        rw [rd_isWord_240_20_eq, ln_240, bI_rI, if_neg (by decide), h7, nn_a, nn_b (i := q + 3) (n := 240) (by omega) (by decide), gd_t, show sg_charAt_240 s (nn 3) = rI 116 s from ch_240_3 s, bI_rI, nn_n (by omega), nn_s]
      | n + 4, h => exact absurd h (by simp)) (by
      show rd_isWord_240_20 s (nn 4) = rI 1 s
      rw [rd_isWord_240_20_eq, ln_240, bI_rI, if_pos (by decide)])
  · rw [if_neg (show ¬ nn (e - q) = (4 : Int32) from fun z => hl ((nn_eq (j := 4) (by omega) (by omega)).mp z)), decide_eq_false hl]; rfl
theorem wd_241 {s : mSt} {q e : Nat} (h5 : s 12 5 = nn e) (h7 : s 12 7 = nn q) (hqe : q ≤ e) (he : e ≤ 240) : rd_isWord_241 s = rI (bi (decide (e - q = 4) && mtB s q [102, 114, 111, 109])) s := by
  have ed : nn e - nn q = nn (e - q) := nn_d hqe
  rw [rd_isWord_241_eq, ln_241, bI_rI, h5, h7, ed]
  by_cases hl : e - q = 4
  · rw [if_pos (by rw [hl]; rfl), decide_eq_true hl, Bool.true_and]
    exact mt_fold s [102, 114, 111, 109] q (fun i => rd_isWord_241_20 s (nn i)) (fun i hi => by
      match i, hi with
      | 0, _ =>
        show rd_isWord_241_20 s (nn 0) = if s 13 (q + 0) = 102 then rd_isWord_241_20 s (nn (0 + 1)) else rI 0 s
        rw [rd_isWord_241_20_eq, ln_241, bI_rI, if_neg (by decide), h7, nn_a, nn_b (i := q + 0) (n := 240) (by omega) (by decide), gd_t, show sg_charAt_241 s (nn 0) = rI 102 s from ch_241_0 s, bI_rI, nn_n (by omega), nn_s]
      | 1, _ =>
        show rd_isWord_241_20 s (nn 1) = if s 13 (q + 1) = 114 then rd_isWord_241_20 s (nn (1 + 1)) else rI 0 s
        rw [rd_isWord_241_20_eq, ln_241, bI_rI, if_neg (by decide), h7, nn_a, nn_b (i := q + 1) (n := 240) (by omega) (by decide), gd_t, show sg_charAt_241 s (nn 1) = rI 114 s from ch_241_1 s, bI_rI, nn_n (by omega), nn_s]
      | 2, _ =>
        show rd_isWord_241_20 s (nn 2) = if s 13 (q + 2) = 111 then rd_isWord_241_20 s (nn (2 + 1)) else rI 0 s
        rw [rd_isWord_241_20_eq, ln_241, bI_rI, if_neg (by decide), h7, nn_a, nn_b (i := q + 2) (n := 240) (by omega) (by decide), gd_t, show sg_charAt_241 s (nn 2) = rI 111 s from ch_241_2 s, bI_rI, nn_n (by omega), nn_s]
      | 3, _ =>
        show rd_isWord_241_20 s (nn 3) = if s 13 (q + 3) = 109 then rd_isWord_241_20 s (nn (3 + 1)) else rI 0 s
        rw [rd_isWord_241_20_eq, ln_241, bI_rI, if_neg (by decide), h7, nn_a, nn_b (i := q + 3) (n := 240) (by omega) (by decide), gd_t, show sg_charAt_241 s (nn 3) = rI 109 s from ch_241_3 s, bI_rI, nn_n (by omega), nn_s]
      | n + 4, h => exact absurd h (by simp)) (by
      show rd_isWord_241_20 s (nn 4) = rI 1 s
      rw [rd_isWord_241_20_eq, ln_241, bI_rI, if_pos (by decide)])
  · rw [if_neg (show ¬ nn (e - q) = (4 : Int32) from fun z => hl ((nn_eq (j := 4) (by omega) (by omega)).mp z)), decide_eq_false hl]; rfl
theorem wd_242 {s : mSt} {q e : Nat} (h5 : s 12 5 = nn e) (h7 : s 12 7 = nn q) (hqe : q ≤ e) (he : e ≤ 240) : rd_isWord_242 s = rI (bi (decide (e - q = 2) && mtB s q [116, 111])) s := by
  have ed : nn e - nn q = nn (e - q) := nn_d hqe
  rw [rd_isWord_242_eq, ln_242, bI_rI, h5, h7, ed]
  by_cases hl : e - q = 2
  · rw [if_pos (by rw [hl]; rfl), decide_eq_true hl, Bool.true_and]
    exact mt_fold s [116, 111] q (fun i => rd_isWord_242_20 s (nn i)) (fun i hi => by
      match i, hi with
      | 0, _ =>
        show rd_isWord_242_20 s (nn 0) = if s 13 (q + 0) = 116 then rd_isWord_242_20 s (nn (0 + 1)) else rI 0 s
        rw [rd_isWord_242_20_eq, ln_242, bI_rI, if_neg (by decide), h7, nn_a, nn_b (i := q + 0) (n := 240) (by omega) (by decide), gd_t, show sg_charAt_242 s (nn 0) = rI 116 s from ch_242_0 s, bI_rI, nn_n (by omega), nn_s]
      | 1, _ =>
        show rd_isWord_242_20 s (nn 1) = if s 13 (q + 1) = 111 then rd_isWord_242_20 s (nn (1 + 1)) else rI 0 s
        rw [rd_isWord_242_20_eq, ln_242, bI_rI, if_neg (by decide), h7, nn_a, nn_b (i := q + 1) (n := 240) (by omega) (by decide), gd_t, show sg_charAt_242 s (nn 1) = rI 111 s from ch_242_1 s, bI_rI, nn_n (by omega), nn_s]
      | n + 2, h => exact absurd h (by simp)) (by
      show rd_isWord_242_20 s (nn 2) = rI 1 s
      rw [rd_isWord_242_20_eq, ln_242, bI_rI, if_pos (by decide)])
  · rw [if_neg (show ¬ nn (e - q) = (2 : Int32) from fun z => hl ((nn_eq (j := 2) (by omega) (by omega)).mp z)), decide_eq_false hl]; rfl
theorem wd_243 {s : mSt} {q e : Nat} (h5 : s 12 5 = nn e) (h7 : s 12 7 = nn q) (hqe : q ≤ e) (he : e ≤ 240) : rd_isWord_243 s = rI (bi (decide (e - q = 3) && mtB s q [102, 111, 114])) s := by
  have ed : nn e - nn q = nn (e - q) := nn_d hqe
  rw [rd_isWord_243_eq, ln_243, bI_rI, h5, h7, ed]
  by_cases hl : e - q = 3
  · rw [if_pos (by rw [hl]; rfl), decide_eq_true hl, Bool.true_and]
    exact mt_fold s [102, 111, 114] q (fun i => rd_isWord_243_20 s (nn i)) (fun i hi => by
      match i, hi with
      | 0, _ =>
        show rd_isWord_243_20 s (nn 0) = if s 13 (q + 0) = 102 then rd_isWord_243_20 s (nn (0 + 1)) else rI 0 s
        rw [rd_isWord_243_20_eq, ln_243, bI_rI, if_neg (by decide), h7, nn_a, nn_b (i := q + 0) (n := 240) (by omega) (by decide), gd_t, show sg_charAt_243 s (nn 0) = rI 102 s from ch_243_0 s, bI_rI, nn_n (by omega), nn_s]
      | 1, _ =>
        show rd_isWord_243_20 s (nn 1) = if s 13 (q + 1) = 111 then rd_isWord_243_20 s (nn (1 + 1)) else rI 0 s
        rw [rd_isWord_243_20_eq, ln_243, bI_rI, if_neg (by decide), h7, nn_a, nn_b (i := q + 1) (n := 240) (by omega) (by decide), gd_t, show sg_charAt_243 s (nn 1) = rI 111 s from ch_243_1 s, bI_rI, nn_n (by omega), nn_s]
      | 2, _ =>
        show rd_isWord_243_20 s (nn 2) = if s 13 (q + 2) = 114 then rd_isWord_243_20 s (nn (2 + 1)) else rI 0 s
        rw [rd_isWord_243_20_eq, ln_243, bI_rI, if_neg (by decide), h7, nn_a, nn_b (i := q + 2) (n := 240) (by omega) (by decide), gd_t, show sg_charAt_243 s (nn 2) = rI 114 s from ch_243_2 s, bI_rI, nn_n (by omega), nn_s]
      | n + 3, h => exact absurd h (by simp)) (by
      show rd_isWord_243_20 s (nn 3) = rI 1 s
      rw [rd_isWord_243_20_eq, ln_243, bI_rI, if_pos (by decide)])
  · rw [if_neg (show ¬ nn (e - q) = (3 : Int32) from fun z => hl ((nn_eq (j := 3) (by omega) (by omega)).mp z)), decide_eq_false hl]; rfl
theorem wd_244 {s : mSt} {q e : Nat} (h5 : s 12 5 = nn e) (h7 : s 12 7 = nn q) (hqe : q ≤ e) (he : e ≤ 240) : rd_isWord_244 s = rI (bi (decide (e - q = 4) && mtB s q [115, 101, 110, 100])) s := by
  have ed : nn e - nn q = nn (e - q) := nn_d hqe
  rw [rd_isWord_244_eq, ln_244, bI_rI, h5, h7, ed]
  by_cases hl : e - q = 4
  · rw [if_pos (by rw [hl]; rfl), decide_eq_true hl, Bool.true_and]
    exact mt_fold s [115, 101, 110, 100] q (fun i => rd_isWord_244_20 s (nn i)) (fun i hi => by
      match i, hi with
      | 0, _ =>
        show rd_isWord_244_20 s (nn 0) = if s 13 (q + 0) = 115 then rd_isWord_244_20 s (nn (0 + 1)) else rI 0 s
        rw [rd_isWord_244_20_eq, ln_244, bI_rI, if_neg (by decide), h7, nn_a, nn_b (i := q + 0) (n := 240) (by omega) (by decide), gd_t, show sg_charAt_244 s (nn 0) = rI 115 s from ch_244_0 s, bI_rI, nn_n (by omega), nn_s]
      | 1, _ =>
        show rd_isWord_244_20 s (nn 1) = if s 13 (q + 1) = 101 then rd_isWord_244_20 s (nn (1 + 1)) else rI 0 s
        rw [rd_isWord_244_20_eq, ln_244, bI_rI, if_neg (by decide), h7, nn_a, nn_b (i := q + 1) (n := 240) (by omega) (by decide), gd_t, show sg_charAt_244 s (nn 1) = rI 101 s from ch_244_1 s, bI_rI, nn_n (by omega), nn_s]
      | 2, _ =>
        show rd_isWord_244_20 s (nn 2) = if s 13 (q + 2) = 110 then rd_isWord_244_20 s (nn (2 + 1)) else rI 0 s
        rw [rd_isWord_244_20_eq, ln_244, bI_rI, if_neg (by decide), h7, nn_a, nn_b (i := q + 2) (n := 240) (by omega) (by decide), gd_t, show sg_charAt_244 s (nn 2) = rI 110 s from ch_244_2 s, bI_rI, nn_n (by omega), nn_s]
      | 3, _ =>
        show rd_isWord_244_20 s (nn 3) = if s 13 (q + 3) = 100 then rd_isWord_244_20 s (nn (3 + 1)) else rI 0 s
        rw [rd_isWord_244_20_eq, ln_244, bI_rI, if_neg (by decide), h7, nn_a, nn_b (i := q + 3) (n := 240) (by omega) (by decide), gd_t, show sg_charAt_244 s (nn 3) = rI 100 s from ch_244_3 s, bI_rI, nn_n (by omega), nn_s]
      | n + 4, h => exact absurd h (by simp)) (by
      show rd_isWord_244_20 s (nn 4) = rI 1 s
      rw [rd_isWord_244_20_eq, ln_244, bI_rI, if_pos (by decide)])
  · rw [if_neg (show ¬ nn (e - q) = (4 : Int32) from fun z => hl ((nn_eq (j := 4) (by omega) (by omega)).mp z)), decide_eq_false hl]; rfl
theorem wd_245 {s : mSt} {q e : Nat} (h5 : s 12 5 = nn e) (h7 : s 12 7 = nn q) (hqe : q ≤ e) (he : e ≤ 240) : rd_isWord_245 s = rI (bi (decide (e - q = 4) && mtB s q [110, 101, 101, 100])) s := by
  have ed : nn e - nn q = nn (e - q) := nn_d hqe
  rw [rd_isWord_245_eq, ln_245, bI_rI, h5, h7, ed]
  by_cases hl : e - q = 4
  · rw [if_pos (by rw [hl]; rfl), decide_eq_true hl, Bool.true_and]
    exact mt_fold s [110, 101, 101, 100] q (fun i => rd_isWord_245_20 s (nn i)) (fun i hi => by
      match i, hi with
      | 0, _ =>
        show rd_isWord_245_20 s (nn 0) = if s 13 (q + 0) = 110 then rd_isWord_245_20 s (nn (0 + 1)) else rI 0 s
        rw [rd_isWord_245_20_eq, ln_245, bI_rI, if_neg (by decide), h7, nn_a, nn_b (i := q + 0) (n := 240) (by omega) (by decide), gd_t, show sg_charAt_245 s (nn 0) = rI 110 s from ch_245_0 s, bI_rI, nn_n (by omega), nn_s]
      | 1, _ =>
        show rd_isWord_245_20 s (nn 1) = if s 13 (q + 1) = 101 then rd_isWord_245_20 s (nn (1 + 1)) else rI 0 s
        rw [rd_isWord_245_20_eq, ln_245, bI_rI, if_neg (by decide), h7, nn_a, nn_b (i := q + 1) (n := 240) (by omega) (by decide), gd_t, show sg_charAt_245 s (nn 1) = rI 101 s from ch_245_1 s, bI_rI, nn_n (by omega), nn_s]
      | 2, _ =>
        show rd_isWord_245_20 s (nn 2) = if s 13 (q + 2) = 101 then rd_isWord_245_20 s (nn (2 + 1)) else rI 0 s
        rw [rd_isWord_245_20_eq, ln_245, bI_rI, if_neg (by decide), h7, nn_a, nn_b (i := q + 2) (n := 240) (by omega) (by decide), gd_t, show sg_charAt_245 s (nn 2) = rI 101 s from ch_245_2 s, bI_rI, nn_n (by omega), nn_s]
      | 3, _ =>
        show rd_isWord_245_20 s (nn 3) = if s 13 (q + 3) = 100 then rd_isWord_245_20 s (nn (3 + 1)) else rI 0 s
        rw [rd_isWord_245_20_eq, ln_245, bI_rI, if_neg (by decide), h7, nn_a, nn_b (i := q + 3) (n := 240) (by omega) (by decide), gd_t, show sg_charAt_245 s (nn 3) = rI 100 s from ch_245_3 s, bI_rI, nn_n (by omega), nn_s]
      | n + 4, h => exact absurd h (by simp)) (by
      show rd_isWord_245_20 s (nn 4) = rI 1 s
      rw [rd_isWord_245_20_eq, ln_245, bI_rI, if_pos (by decide)])
  · rw [if_neg (show ¬ nn (e - q) = (4 : Int32) from fun z => hl ((nn_eq (j := 4) (by omega) (by omega)).mp z)), decide_eq_false hl]; rfl
theorem wd_246 {s : mSt} {q e : Nat} (h5 : s 12 5 = nn e) (h7 : s 12 7 = nn q) (hqe : q ≤ e) (he : e ≤ 240) : rd_isWord_246 s = rI (bi (decide (e - q = 4) && mtB s q [108, 111, 115, 115])) s := by
  have ed : nn e - nn q = nn (e - q) := nn_d hqe
  rw [rd_isWord_246_eq, ln_246, bI_rI, h5, h7, ed]
  by_cases hl : e - q = 4
  · rw [if_pos (by rw [hl]; rfl), decide_eq_true hl, Bool.true_and]
    exact mt_fold s [108, 111, 115, 115] q (fun i => rd_isWord_246_20 s (nn i)) (fun i hi => by
      match i, hi with
      | 0, _ =>
        show rd_isWord_246_20 s (nn 0) = if s 13 (q + 0) = 108 then rd_isWord_246_20 s (nn (0 + 1)) else rI 0 s
        rw [rd_isWord_246_20_eq, ln_246, bI_rI, if_neg (by decide), h7, nn_a, nn_b (i := q + 0) (n := 240) (by omega) (by decide), gd_t, show sg_charAt_246 s (nn 0) = rI 108 s from ch_246_0 s, bI_rI, nn_n (by omega), nn_s]
      | 1, _ =>
        show rd_isWord_246_20 s (nn 1) = if s 13 (q + 1) = 111 then rd_isWord_246_20 s (nn (1 + 1)) else rI 0 s
        rw [rd_isWord_246_20_eq, ln_246, bI_rI, if_neg (by decide), h7, nn_a, nn_b (i := q + 1) (n := 240) (by omega) (by decide), gd_t, show sg_charAt_246 s (nn 1) = rI 111 s from ch_246_1 s, bI_rI, nn_n (by omega), nn_s]
      | 2, _ =>
        show rd_isWord_246_20 s (nn 2) = if s 13 (q + 2) = 115 then rd_isWord_246_20 s (nn (2 + 1)) else rI 0 s
        rw [rd_isWord_246_20_eq, ln_246, bI_rI, if_neg (by decide), h7, nn_a, nn_b (i := q + 2) (n := 240) (by omega) (by decide), gd_t, show sg_charAt_246 s (nn 2) = rI 115 s from ch_246_2 s, bI_rI, nn_n (by omega), nn_s]
      | 3, _ =>
        show rd_isWord_246_20 s (nn 3) = if s 13 (q + 3) = 115 then rd_isWord_246_20 s (nn (3 + 1)) else rI 0 s
        rw [rd_isWord_246_20_eq, ln_246, bI_rI, if_neg (by decide), h7, nn_a, nn_b (i := q + 3) (n := 240) (by omega) (by decide), gd_t, show sg_charAt_246 s (nn 3) = rI 115 s from ch_246_3 s, bI_rI, nn_n (by omega), nn_s]
      | n + 4, h => exact absurd h (by simp)) (by
      show rd_isWord_246_20 s (nn 4) = rI 1 s
      rw [rd_isWord_246_20_eq, ln_246, bI_rI, if_pos (by decide)])
  · rw [if_neg (show ¬ nn (e - q) = (4 : Int32) from fun z => hl ((nn_eq (j := 4) (by omega) (by omega)).mp z)), decide_eq_false hl]; rfl
theorem wd_247 {s : mSt} {q e : Nat} (h5 : s 12 5 = nn e) (h7 : s 12 7 = nn q) (hqe : q ≤ e) (he : e ≤ 240) : rd_isWord_247 s = rI (bi (decide (e - q = 6) && mtB s q [115, 112, 108, 105, 99, 101])) s := by
  have ed : nn e - nn q = nn (e - q) := nn_d hqe
  rw [rd_isWord_247_eq, ln_247, bI_rI, h5, h7, ed]
  by_cases hl : e - q = 6
  · rw [if_pos (by rw [hl]; rfl), decide_eq_true hl, Bool.true_and]
    exact mt_fold s [115, 112, 108, 105, 99, 101] q (fun i => rd_isWord_247_20 s (nn i)) (fun i hi => by
      match i, hi with
      | 0, _ =>
        show rd_isWord_247_20 s (nn 0) = if s 13 (q + 0) = 115 then rd_isWord_247_20 s (nn (0 + 1)) else rI 0 s
        rw [rd_isWord_247_20_eq, ln_247, bI_rI, if_neg (by decide), h7, nn_a, nn_b (i := q + 0) (n := 240) (by omega) (by decide), gd_t, show sg_charAt_247 s (nn 0) = rI 115 s from ch_247_0 s, bI_rI, nn_n (by omega), nn_s]
      | 1, _ =>
        show rd_isWord_247_20 s (nn 1) = if s 13 (q + 1) = 112 then rd_isWord_247_20 s (nn (1 + 1)) else rI 0 s
        rw [rd_isWord_247_20_eq, ln_247, bI_rI, if_neg (by decide), h7, nn_a, nn_b (i := q + 1) (n := 240) (by omega) (by decide), gd_t, show sg_charAt_247 s (nn 1) = rI 112 s from ch_247_1 s, bI_rI, nn_n (by omega), nn_s]
      | 2, _ =>
        show rd_isWord_247_20 s (nn 2) = if s 13 (q + 2) = 108 then rd_isWord_247_20 s (nn (2 + 1)) else rI 0 s
        rw [rd_isWord_247_20_eq, ln_247, bI_rI, if_neg (by decide), h7, nn_a, nn_b (i := q + 2) (n := 240) (by omega) (by decide), gd_t, show sg_charAt_247 s (nn 2) = rI 108 s from ch_247_2 s, bI_rI, nn_n (by omega), nn_s]
      | 3, _ =>
        show rd_isWord_247_20 s (nn 3) = if s 13 (q + 3) = 105 then rd_isWord_247_20 s (nn (3 + 1)) else rI 0 s
        rw [rd_isWord_247_20_eq, ln_247, bI_rI, if_neg (by decide), h7, nn_a, nn_b (i := q + 3) (n := 240) (by omega) (by decide), gd_t, show sg_charAt_247 s (nn 3) = rI 105 s from ch_247_3 s, bI_rI, nn_n (by omega), nn_s]
      | 4, _ =>
        show rd_isWord_247_20 s (nn 4) = if s 13 (q + 4) = 99 then rd_isWord_247_20 s (nn (4 + 1)) else rI 0 s
        rw [rd_isWord_247_20_eq, ln_247, bI_rI, if_neg (by decide), h7, nn_a, nn_b (i := q + 4) (n := 240) (by omega) (by decide), gd_t, show sg_charAt_247 s (nn 4) = rI 99 s from ch_247_4 s, bI_rI, nn_n (by omega), nn_s]
      | 5, _ =>
        show rd_isWord_247_20 s (nn 5) = if s 13 (q + 5) = 101 then rd_isWord_247_20 s (nn (5 + 1)) else rI 0 s
        rw [rd_isWord_247_20_eq, ln_247, bI_rI, if_neg (by decide), h7, nn_a, nn_b (i := q + 5) (n := 240) (by omega) (by decide), gd_t, show sg_charAt_247 s (nn 5) = rI 101 s from ch_247_5 s, bI_rI, nn_n (by omega), nn_s]
      | n + 6, h => exact absurd h (by simp)) (by
      show rd_isWord_247_20 s (nn 6) = rI 1 s
      rw [rd_isWord_247_20_eq, ln_247, bI_rI, if_pos (by decide)])
  · rw [if_neg (show ¬ nn (e - q) = (6 : Int32) from fun z => hl ((nn_eq (j := 6) (by omega) (by omega)).mp z)), decide_eq_false hl]; rfl
theorem wd_248 {s : mSt} {q e : Nat} (h5 : s 12 5 = nn e) (h7 : s 12 7 = nn q) (hqe : q ≤ e) (he : e ≤ 240) : rd_isWord_248 s = rI (bi (decide (e - q = 3) && mtB s q [97, 103, 101])) s := by
  have ed : nn e - nn q = nn (e - q) := nn_d hqe
  rw [rd_isWord_248_eq, ln_248, bI_rI, h5, h7, ed]
  by_cases hl : e - q = 3
  · rw [if_pos (by rw [hl]; rfl), decide_eq_true hl, Bool.true_and]
    exact mt_fold s [97, 103, 101] q (fun i => rd_isWord_248_20 s (nn i)) (fun i hi => by
      match i, hi with
      | 0, _ =>
        show rd_isWord_248_20 s (nn 0) = if s 13 (q + 0) = 97 then rd_isWord_248_20 s (nn (0 + 1)) else rI 0 s
        rw [rd_isWord_248_20_eq, ln_248, bI_rI, if_neg (by decide), h7, nn_a, nn_b (i := q + 0) (n := 240) (by omega) (by decide), gd_t, show sg_charAt_248 s (nn 0) = rI 97 s from ch_248_0 s, bI_rI, nn_n (by omega), nn_s]
      | 1, _ =>
        show rd_isWord_248_20 s (nn 1) = if s 13 (q + 1) = 103 then rd_isWord_248_20 s (nn (1 + 1)) else rI 0 s
        rw [rd_isWord_248_20_eq, ln_248, bI_rI, if_neg (by decide), h7, nn_a, nn_b (i := q + 1) (n := 240) (by omega) (by decide), gd_t, show sg_charAt_248 s (nn 1) = rI 103 s from ch_248_1 s, bI_rI, nn_n (by omega), nn_s]
      | 2, _ =>
        show rd_isWord_248_20 s (nn 2) = if s 13 (q + 2) = 101 then rd_isWord_248_20 s (nn (2 + 1)) else rI 0 s
        rw [rd_isWord_248_20_eq, ln_248, bI_rI, if_neg (by decide), h7, nn_a, nn_b (i := q + 2) (n := 240) (by omega) (by decide), gd_t, show sg_charAt_248 s (nn 2) = rI 101 s from ch_248_2 s, bI_rI, nn_n (by omega), nn_s]
      | n + 3, h => exact absurd h (by simp)) (by
      show rd_isWord_248_20 s (nn 3) = rI 1 s
      rw [rd_isWord_248_20_eq, ln_248, bI_rI, if_pos (by decide)])
  · rw [if_neg (show ¬ nn (e - q) = (3 : Int32) from fun z => hl ((nn_eq (j := 3) (by omega) (by omega)).mp z)), decide_eq_false hl]; rfl
theorem wd_249 {s : mSt} {q e : Nat} (h5 : s 12 5 = nn e) (h7 : s 12 7 = nn q) (hqe : q ≤ e) (he : e ≤ 240) : rd_isWord_249 s = rI (bi (decide (e - q = 4) && mtB s q [114, 111, 111, 109])) s := by
  have ed : nn e - nn q = nn (e - q) := nn_d hqe
  rw [rd_isWord_249_eq, ln_249, bI_rI, h5, h7, ed]
  by_cases hl : e - q = 4
  · rw [if_pos (by rw [hl]; rfl), decide_eq_true hl, Bool.true_and]
    exact mt_fold s [114, 111, 111, 109] q (fun i => rd_isWord_249_20 s (nn i)) (fun i hi => by
      match i, hi with
      | 0, _ =>
        show rd_isWord_249_20 s (nn 0) = if s 13 (q + 0) = 114 then rd_isWord_249_20 s (nn (0 + 1)) else rI 0 s
        rw [rd_isWord_249_20_eq, ln_249, bI_rI, if_neg (by decide), h7, nn_a, nn_b (i := q + 0) (n := 240) (by omega) (by decide), gd_t, show sg_charAt_249 s (nn 0) = rI 114 s from ch_249_0 s, bI_rI, nn_n (by omega), nn_s]
      | 1, _ =>
        show rd_isWord_249_20 s (nn 1) = if s 13 (q + 1) = 111 then rd_isWord_249_20 s (nn (1 + 1)) else rI 0 s
        rw [rd_isWord_249_20_eq, ln_249, bI_rI, if_neg (by decide), h7, nn_a, nn_b (i := q + 1) (n := 240) (by omega) (by decide), gd_t, show sg_charAt_249 s (nn 1) = rI 111 s from ch_249_1 s, bI_rI, nn_n (by omega), nn_s]
      | 2, _ =>
        show rd_isWord_249_20 s (nn 2) = if s 13 (q + 2) = 111 then rd_isWord_249_20 s (nn (2 + 1)) else rI 0 s
        rw [rd_isWord_249_20_eq, ln_249, bI_rI, if_neg (by decide), h7, nn_a, nn_b (i := q + 2) (n := 240) (by omega) (by decide), gd_t, show sg_charAt_249 s (nn 2) = rI 111 s from ch_249_2 s, bI_rI, nn_n (by omega), nn_s]
      | 3, _ =>
        show rd_isWord_249_20 s (nn 3) = if s 13 (q + 3) = 109 then rd_isWord_249_20 s (nn (3 + 1)) else rI 0 s
        rw [rd_isWord_249_20_eq, ln_249, bI_rI, if_neg (by decide), h7, nn_a, nn_b (i := q + 3) (n := 240) (by omega) (by decide), gd_t, show sg_charAt_249 s (nn 3) = rI 109 s from ch_249_3 s, bI_rI, nn_n (by omega), nn_s]
      | n + 4, h => exact absurd h (by simp)) (by
      show rd_isWord_249_20 s (nn 4) = rI 1 s
      rw [rd_isWord_249_20_eq, ln_249, bI_rI, if_pos (by decide)])
  · rw [if_neg (show ¬ nn (e - q) = (4 : Int32) from fun z => hl ((nn_eq (j := 4) (by omega) (by omega)).mp z)), decide_eq_false hl]; rfl
theorem wd_250 {s : mSt} {q e : Nat} (h5 : s 12 5 = nn e) (h7 : s 12 7 = nn q) (hqe : q ≤ e) (he : e ≤ 240) : rd_isWord_250 s = rI (bi (decide (e - q = 4) && mtB s q [109, 101, 110, 100])) s := by
  have ed : nn e - nn q = nn (e - q) := nn_d hqe
  rw [rd_isWord_250_eq, ln_250, bI_rI, h5, h7, ed]
  by_cases hl : e - q = 4
  · rw [if_pos (by rw [hl]; rfl), decide_eq_true hl, Bool.true_and]
    exact mt_fold s [109, 101, 110, 100] q (fun i => rd_isWord_250_20 s (nn i)) (fun i hi => by
      match i, hi with
      | 0, _ =>
        show rd_isWord_250_20 s (nn 0) = if s 13 (q + 0) = 109 then rd_isWord_250_20 s (nn (0 + 1)) else rI 0 s
        rw [rd_isWord_250_20_eq, ln_250, bI_rI, if_neg (by decide), h7, nn_a, nn_b (i := q + 0) (n := 240) (by omega) (by decide), gd_t, show sg_charAt_250 s (nn 0) = rI 109 s from ch_250_0 s, bI_rI, nn_n (by omega), nn_s]
      | 1, _ =>
        show rd_isWord_250_20 s (nn 1) = if s 13 (q + 1) = 101 then rd_isWord_250_20 s (nn (1 + 1)) else rI 0 s
        rw [rd_isWord_250_20_eq, ln_250, bI_rI, if_neg (by decide), h7, nn_a, nn_b (i := q + 1) (n := 240) (by omega) (by decide), gd_t, show sg_charAt_250 s (nn 1) = rI 101 s from ch_250_1 s, bI_rI, nn_n (by omega), nn_s]
      | 2, _ =>
        show rd_isWord_250_20 s (nn 2) = if s 13 (q + 2) = 110 then rd_isWord_250_20 s (nn (2 + 1)) else rI 0 s
        rw [rd_isWord_250_20_eq, ln_250, bI_rI, if_neg (by decide), h7, nn_a, nn_b (i := q + 2) (n := 240) (by omega) (by decide), gd_t, show sg_charAt_250 s (nn 2) = rI 110 s from ch_250_2 s, bI_rI, nn_n (by omega), nn_s]
      | 3, _ =>
        show rd_isWord_250_20 s (nn 3) = if s 13 (q + 3) = 100 then rd_isWord_250_20 s (nn (3 + 1)) else rI 0 s
        rw [rd_isWord_250_20_eq, ln_250, bI_rI, if_neg (by decide), h7, nn_a, nn_b (i := q + 3) (n := 240) (by omega) (by decide), gd_t, show sg_charAt_250 s (nn 3) = rI 100 s from ch_250_3 s, bI_rI, nn_n (by omega), nn_s]
      | n + 4, h => exact absurd h (by simp)) (by
      show rd_isWord_250_20 s (nn 4) = rI 1 s
      rw [rd_isWord_250_20_eq, ln_250, bI_rI, if_pos (by decide)])
  · rw [if_neg (show ¬ nn (e - q) = (4 : Int32) from fun z => hl ((nn_eq (j := 4) (by omega) (by omega)).mp z)), decide_eq_false hl]; rfl
theorem wd_251 {s : mSt} {q e : Nat} (h5 : s 12 5 = nn e) (h7 : s 12 7 = nn q) (hqe : q ≤ e) (he : e ≤ 240) : rd_isWord_251 s = rI (bi (decide (e - q = 4) && mtB s q [115, 97, 105, 108])) s := by
  have ed : nn e - nn q = nn (e - q) := nn_d hqe
  rw [rd_isWord_251_eq, ln_251, bI_rI, h5, h7, ed]
  by_cases hl : e - q = 4
  · rw [if_pos (by rw [hl]; rfl), decide_eq_true hl, Bool.true_and]
    exact mt_fold s [115, 97, 105, 108] q (fun i => rd_isWord_251_20 s (nn i)) (fun i hi => by
      match i, hi with
      | 0, _ =>
        show rd_isWord_251_20 s (nn 0) = if s 13 (q + 0) = 115 then rd_isWord_251_20 s (nn (0 + 1)) else rI 0 s
        rw [rd_isWord_251_20_eq, ln_251, bI_rI, if_neg (by decide), h7, nn_a, nn_b (i := q + 0) (n := 240) (by omega) (by decide), gd_t, show sg_charAt_251 s (nn 0) = rI 115 s from ch_251_0 s, bI_rI, nn_n (by omega), nn_s]
      | 1, _ =>
        show rd_isWord_251_20 s (nn 1) = if s 13 (q + 1) = 97 then rd_isWord_251_20 s (nn (1 + 1)) else rI 0 s
        rw [rd_isWord_251_20_eq, ln_251, bI_rI, if_neg (by decide), h7, nn_a, nn_b (i := q + 1) (n := 240) (by omega) (by decide), gd_t, show sg_charAt_251 s (nn 1) = rI 97 s from ch_251_1 s, bI_rI, nn_n (by omega), nn_s]
      | 2, _ =>
        show rd_isWord_251_20 s (nn 2) = if s 13 (q + 2) = 105 then rd_isWord_251_20 s (nn (2 + 1)) else rI 0 s
        rw [rd_isWord_251_20_eq, ln_251, bI_rI, if_neg (by decide), h7, nn_a, nn_b (i := q + 2) (n := 240) (by omega) (by decide), gd_t, show sg_charAt_251 s (nn 2) = rI 105 s from ch_251_2 s, bI_rI, nn_n (by omega), nn_s]
      | 3, _ =>
        show rd_isWord_251_20 s (nn 3) = if s 13 (q + 3) = 108 then rd_isWord_251_20 s (nn (3 + 1)) else rI 0 s
        rw [rd_isWord_251_20_eq, ln_251, bI_rI, if_neg (by decide), h7, nn_a, nn_b (i := q + 3) (n := 240) (by omega) (by decide), gd_t, show sg_charAt_251 s (nn 3) = rI 108 s from ch_251_3 s, bI_rI, nn_n (by omega), nn_s]
      | n + 4, h => exact absurd h (by simp)) (by
      show rd_isWord_251_20 s (nn 4) = rI 1 s
      rw [rd_isWord_251_20_eq, ln_251, bI_rI, if_pos (by decide)])
  · rw [if_neg (show ¬ nn (e - q) = (4 : Int32) from fun z => hl ((nn_eq (j := 4) (by omega) (by omega)).mp z)), decide_eq_false hl]; rfl
