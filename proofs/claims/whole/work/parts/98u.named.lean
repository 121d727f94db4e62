/-! RULES: the rule named, the class (gen98u.py) -/
def rnV (T : Nat → Int32) (q e : Nat) : Int32 := if wqT T q e [115, 101, 110, 100] = true then 0 else if wqT T q e [110, 101, 101, 100] = true then 1 else if wqT T q e [108, 111, 115, 115] = true then 2 else if wqT T q e [115, 112, 108, 105, 99, 101] = true then 3 else if wqT T q e [97, 103, 101] = true then 4 else if wqT T q e [114, 111, 111, 109] = true then 5 else if wqT T q e [109, 101, 110, 100] = true then 6 else if wqT T q e [115, 97, 105, 108] = true then 7 else 8
theorem namedC {T : Nat → Int32} {q e : Nat} {s : mSt} (hT : s 13 = T) (h5 : s 12 5 = nn e) (h7 : s 12 7 = nn q) (hqe : q ≤ e) (he : e ≤ 240) : rd_ruleNamed s = rI (rnV T q e) s := by
  have w0 : EV 65 0 [some (pA 12), some (pA 244), none] [] s = rI (bi (wqT T q e [115, 101, 110, 100])) s := by
    refine (wd_244 h5 h7 hqe he).trans ?_
    rw [mt_T, hT]; rfl
  have n0 : rd_nameOf s 0 = rA 244 s := by
    rw [rd_nameOf_eq, if_pos rfl]
  have s0 : rd_ruleNamed_2 s 0 = if wqT T q e [115, 101, 110, 100] = true then rI 0 s else rd_ruleNamed_2 s 1 := by
    rw [rd_ruleNamed_2_eq, if_neg (by decide), n0]
    show (bI (EV 65 0 [some (pA 12), some (pA 244), none] [] s) fun v2 s2 => if v2 = 0 then rd_ruleNamed_2 s2 (0 + 1) else rI 0 s2) = _
    rw [w0, bI_rI, bi_if]
    rfl
  have w1 : EV 65 0 [some (pA 12), some (pA 245), none] [] s = rI (bi (wqT T q e [110, 101, 101, 100])) s := by
    refine (wd_245 h5 h7 hqe he).trans ?_
    rw [mt_T, hT]; rfl
  have n1 : rd_nameOf s 1 = rA 245 s := by
    rw [rd_nameOf_eq, if_neg (show ¬ (1 : Int32) = 0 by decide), if_pos rfl]
  have s1 : rd_ruleNamed_2 s 1 = if wqT T q e [110, 101, 101, 100] = true then rI 1 s else rd_ruleNamed_2 s 2 := by
    rw [rd_ruleNamed_2_eq, if_neg (by decide), n1]
    show (bI (EV 65 0 [some (pA 12), some (pA 245), none] [] s) fun v2 s2 => if v2 = 0 then rd_ruleNamed_2 s2 (1 + 1) else rI 1 s2) = _
    rw [w1, bI_rI, bi_if]
    rfl
  have w2 : EV 65 0 [some (pA 12), some (pA 246), none] [] s = rI (bi (wqT T q e [108, 111, 115, 115])) s := by
    refine (wd_246 h5 h7 hqe he).trans ?_
    rw [mt_T, hT]; rfl
  have n2 : rd_nameOf s 2 = rA 246 s := by
    rw [rd_nameOf_eq, if_neg (show ¬ (2 : Int32) = 0 by decide), if_neg (show ¬ (2 : Int32) = 1 by decide), if_pos rfl]
  have s2 : rd_ruleNamed_2 s 2 = if wqT T q e [108, 111, 115, 115] = true then rI 2 s else rd_ruleNamed_2 s 3 := by
    rw [rd_ruleNamed_2_eq, if_neg (by decide), n2]
    show (bI (EV 65 0 [some (pA 12), some (pA 246), none] [] s) fun v2 s2 => if v2 = 0 then rd_ruleNamed_2 s2 (2 + 1) else rI 2 s2) = _
    rw [w2, bI_rI, bi_if]
    rfl
  have w3 : EV 65 0 [some (pA 12), some (pA 247), none] [] s = rI (bi (wqT T q e [115, 112, 108, 105, 99, 101])) s := by
    refine (wd_247 h5 h7 hqe he).trans ?_
    rw [mt_T, hT]; rfl
  have n3 : rd_nameOf s 3 = rA 247 s := by
    rw [rd_nameOf_eq, if_neg (show ¬ (3 : Int32) = 0 by decide), if_neg (show ¬ (3 : Int32) = 1 by decide), if_neg (show ¬ (3 : Int32) = 2 by decide), if_pos rfl]
  have s3 : rd_ruleNamed_2 s 3 = if wqT T q e [115, 112, 108, 105, 99, 101] = true then rI 3 s else rd_ruleNamed_2 s 4 := by
    rw [rd_ruleNamed_2_eq, if_neg (by decide), n3]
    show (bI (EV 65 0 [some (pA 12), some (pA 247), none] [] s) fun v2 s2 => if v2 = 0 then rd_ruleNamed_2 s2 (3 + 1) else rI 3 s2) = _
    rw [w3, bI_rI, bi_if]
    rfl
  have w4 : EV 65 0 [some (pA 12), some (pA 248), none] [] s = rI (bi (wqT T q e [97, 103, 101])) s := by
    refine (wd_248 h5 h7 hqe he).trans ?_
    rw [mt_T, hT]; rfl
  have n4 : rd_nameOf s 4 = rA 248 s := by
    rw [rd_nameOf_eq, if_neg (show ¬ (4 : Int32) = 0 by decide), if_neg (show ¬ (4 : Int32) = 1 by decide), if_neg (show ¬ (4 : Int32) = 2 by decide), if_neg (show ¬ (4 : Int32) = 3 by decide), if_pos rfl]
  have s4 : rd_ruleNamed_2 s 4 = if wqT T q e [97, 103, 101] = true then rI 4 s else rd_ruleNamed_2 s 5 := by
    rw [rd_ruleNamed_2_eq, if_neg (by decide), n4]
    show (bI (EV 65 0 [some (pA 12), some (pA 248), none] [] s) fun v2 s2 => if v2 = 0 then rd_ruleNamed_2 s2 (4 + 1) else rI 4 s2) = _
    rw [w4, bI_rI, bi_if]
    rfl
  have w5 : EV 65 0 [some (pA 12), some (pA 249), none] [] s = rI (bi (wqT T q e [114, 111, 111, 109])) s := by
    refine (wd_249 h5 h7 hqe he).trans ?_
    rw [mt_T, hT]; rfl
  have n5 : rd_nameOf s 5 = rA 249 s := by
    rw [rd_nameOf_eq, if_neg (show ¬ (5 : Int32) = 0 by decide), if_neg (show ¬ (5 : Int32) = 1 by decide), if_neg (show ¬ (5 : Int32) = 2 by decide), if_neg (show ¬ (5 : Int32) = 3 by decide), if_neg (show ¬ (5 : Int32) = 4 by decide), if_pos rfl]
  have s5 : rd_ruleNamed_2 s 5 = if wqT T q e [114, 111, 111, 109] = true then rI 5 s else rd_ruleNamed_2 s 6 := by
    rw [rd_ruleNamed_2_eq, if_neg (by decide), n5]
    show (bI (EV 65 0 [some (pA 12), some (pA 249), none] [] s) fun v2 s2 => if v2 = 0 then rd_ruleNamed_2 s2 (5 + 1) else rI 5 s2) = _
    rw [w5, bI_rI, bi_if]
    rfl
  have w6 : EV 65 0 [some (pA 12), some (pA 250), none] [] s = rI (bi (wqT T q e [109, 101, 110, 100])) s := by
    refine (wd_250 h5 h7 hqe he).trans ?_
    rw [mt_T, hT]; rfl
  have n6 : rd_nameOf s 6 = rA 250 s := by
    rw [rd_nameOf_eq, if_neg (show ¬ (6 : Int32) = 0 by decide), if_neg (show ¬ (6 : Int32) = 1 by decide), if_neg (show ¬ (6 : Int32) = 2 by decide), if_neg (show ¬ (6 : Int32) = 3 by decide), if_neg (show ¬ (6 : Int32) = 4 by decide), if_neg (show ¬ (6 : Int32) = 5 by decide), if_pos rfl]
  have s6 : rd_ruleNamed_2 s 6 = if wqT T q e [109, 101, 110, 100] = true then rI 6 s else rd_ruleNamed_2 s 7 := by
    rw [rd_ruleNamed_2_eq, if_neg (by decide), n6]
    show (bI (EV 65 0 [some (pA 12), some (pA 250), none] [] s) fun v2 s2 => if v2 = 0 then rd_ruleNamed_2 s2 (6 + 1) else rI 6 s2) = _
    rw [w6, bI_rI, bi_if]
    rfl
  have w7 : EV 65 0 [some (pA 12), some (pA 251), none] [] s = rI (bi (wqT T q e [115, 97, 105, 108])) s := by
    refine (wd_251 h5 h7 hqe he).trans ?_
    rw [mt_T, hT]; rfl
  have n7 : rd_nameOf s 7 = rA 251 s := by
    rw [rd_nameOf_eq, if_neg (show ¬ (7 : Int32) = 0 by decide), if_neg (show ¬ (7 : Int32) = 1 by decide), if_neg (show ¬ (7 : Int32) = 2 by decide), if_neg (show ¬ (7 : Int32) = 3 by decide), if_neg (show ¬ (7 : Int32) = 4 by decide), if_neg (show ¬ (7 : Int32) = 5 by decide), if_neg (show ¬ (7 : Int32) = 6 by decide)]
  have s7 : rd_ruleNamed_2 s 7 = if wqT T q e [115, 97, 105, 108] = true then rI 7 s else rd_ruleNamed_2 s 8 := by
    rw [rd_ruleNamed_2_eq, if_neg (by decide), n7]
    show (bI (EV 65 0 [some (pA 12), some (pA 251), none] [] s) fun v2 s2 => if v2 = 0 then rd_ruleNamed_2 s2 (7 + 1) else rI 7 s2) = _
    rw [w7, bI_rI, bi_if]
    rfl
  have rif : ∀ (b : Bool) (x y : Int32), (if b = true then rI x s else rI y s) = rI (if b = true then x else y) s := fun b x y => by cases b <;> rfl
  rw [rd_ruleNamed_eq, s0, s1, s2, s3, s4, s5, s6, s7, rd_ruleNamed_2_eq, if_pos (show (8 : Int32) ≤ 8 by decide), rif, rif, rif, rif, rif, rif, rif, rif]
  rfl
