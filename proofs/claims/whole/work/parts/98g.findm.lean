/-! the best of all partings: the reference -/
section FBM
variable {t s s0 : mSt} {U : Nat → Nat → Int32}
theorem nn_q {a m : Nat} (hm : 0 < m) (ha : a < 2147483648) (hm2 : m < 2147483648) : nn a / nn m = nn (a / m) := by
  have hq : a / m ≤ a := Nat.div_le_self a m
  have hne : (nn m) ≠ -1 := fun w => by
    have := nn_i hm2
    rw [w] at this
    have e : (-1 : Int32).toInt = -1 := rfl
    omega
  apply Int32.toInt_inj.mp
  rw [Int32.toInt_div_of_ne_right _ _ hne, nn_i ha, nn_i hm2, nn_i (by omega)]
  exact (Int.ofNat_tdiv a m).symm
def aV (t s : mSt) (c j : Nat) : Int32 := if j < nsh t then s 223 (128 * j + mkV t c j) else 0
theorem codeM (hJ : J t) (h7 : jnN t ≤ 7) (hK : K t s) (hm : 0 < nsh t) {c : Nat} (hc : c < 2187) (x1 x2 x3 : Int32) : ∀ r, r ≤ jnN t → mo_findOrder_110 s x1 x2 x3 (nn (c / nsh t ^ (jnN t - r))) (nn (mkF (fun k => if r ≤ k then dgN (nsh t) (jnN t) c k else 9) 0 (jnN t))) (nn (mkF (fun k => if r ≤ k then dgN (nsh t) (jnN t) c k else 9) 1 (jnN t))) (nn (mkF (fun k => if r ≤ k then dgN (nsh t) (jnN t) c k else 9) 2 (jnN t))) (nn r - 1) = mo_findOrder_110 s x1 x2 x3 (nn (c / nsh t ^ jnN t)) (nn (mkV t c 0)) (nn (mkV t c 1)) (nn (mkV t c 2)) (-1) := by
  obtain ⟨en, h3, -⟩ := nsh_ok hJ
  have emm := (J_F hJ).1.1
  have hR7 : 2 ^ jnN t ≤ 2 ^ 7 := Nat.pow_le_pow_right (by omega) h7
  intro r
  induction r with
  | zero =>
    intro _
    have ev : ∀ j, mkF (fun k => if 0 ≤ k then dgN (nsh t) (jnN t) c k else 9) j (jnN t) = mkV t c j := fun j => mk_cg (fun k _ => if_pos (Nat.zero_le k)) j
    rw [ev, ev, ev, Nat.sub_zero]
    rfl
  | succ i ih =>
    intro hr
    have hi : i < jnN t := by omega
    have ei : nn (i + 1) - 1 = nn i := nn_d (j := 1) (by omega)
    have hdl : c / nsh t ^ (jnN t - (i + 1)) ≤ c := Nat.div_le_self _ _
    have hml := Nat.mod_lt (c / nsh t ^ (jnN t - (i + 1))) hm
    have edv : c / nsh t ^ (jnN t - (i + 1)) / nsh t = c / nsh t ^ (jnN t - i) := by rw [Nat.div_div_eq_div_mul, ← Nat.pow_succ, show (jnN t - (i + 1)).succ = jnN t - i by omega]
    have emd : nn (c / nsh t ^ (jnN t - (i + 1))) - nn (c / nsh t ^ (jnN t - i)) * nn (nsh t) = nn (dgN (nsh t) (jnN t) c i) := by
      rw [nn_m, nn_d (by rw [← edv]; exact Nat.div_mul_le_self _ _)]
      congr 1
      have := Nat.div_add_mod (c / nsh t ^ (jnN t - (i + 1))) (nsh t)
      rw [edv, Nat.mul_comm] at this
      unfold dgN
      omega
    have hdg : dgN (nsh t) (jnN t) c i < 3 := Nat.lt_of_lt_of_le hml h3
    have hne : ¬ nn (nsh t) = 0 := fun w => by
      have := (nn_eq (j := 0) (by omega) (by omega)).mp w
      omega
    have ev : ∀ j, j < 3 → mkF (fun k => if i + 1 ≤ k then dgN (nsh t) (jnN t) c k else 9) j (jnN t) ||| (if dgN (nsh t) (jnN t) c i = j then 2 ^ i else 0) = mkF (fun k => if i ≤ k then dgN (nsh t) (jnN t) c k else 9) j (jnN t) := fun j hj => by
      rw [← mk_o _ _ _ hi (show (if i + 1 ≤ i then dgN (nsh t) (jnN t) c i else 9) ≠ j by rw [if_neg (by omega)]; omega)]
      apply mk_cg
      intro k hk
      unfold vup
      by_cases e : k = i
      · rw [if_pos e, e, if_pos (Nat.le_refl _)]
      · rw [if_neg e]
        by_cases l : i + 1 ≤ k
        · rw [if_pos (show i ≤ k by omega)]; exact if_pos l
        · rw [if_neg (show ¬ i ≤ k by omega)]; exact if_neg l
    have orM : ∀ j, j < 3 → nn (mkF (fun k => if i + 1 ≤ k then dgN (nsh t) (jnN t) c k else 9) j (jnN t)) ||| (if dgN (nsh t) (jnN t) c i = j then 1 <<< (nn i &&& 31) else 0) = nn (mkF (fun k => if i ≤ k then dgN (nsh t) (jnN t) c k else 9) j (jnN t)) := fun j hj => by
      rw [← ev j hj]
      have hl := mk_lt (fun k => if i + 1 ≤ k then dgN (nsh t) (jnN t) c k else 9) j (jnN t)
      by_cases e : dgN (nsh t) (jnN t) c i = j
      · rw [if_pos e, if_pos e, bor (by omega) (by omega)]
      · rw [if_neg e, if_neg e, Nat.or_zero]
        exact Int32.or_zero
    rw [← ih (by omega), ei, mo_findOrder_110_eq, if_neg (show ¬ nn i < 0 from nlt (j := 0) (by omega) (by omega)), K_m hK 49 rfl, emm, en, decide_eq_false hne, nn_q hm (by omega) (by omega), edv, emd, ← orM 0 (by omega), ← orM 1 (by omega), ← orM 2 (by omega)]
    have hb : (!false) = true := rfl
    rw [hb, gd_t, gd_t]
    have es : nn i + -1 = nn i - 1 := (Int32.sub_eq_add_neg _ _).symm
    have d3 : dgN (nsh t) (jnN t) c i = 0 ∨ dgN (nsh t) (jnN t) c i = 1 ∨ dgN (nsh t) (jnN t) c i = 2 := by omega
    rcases d3 with d | d | d
    · rw [d, if_pos (show nn 0 = 0 from rfl), mo_findOrder_148_eq, if_neg (show ¬ nn 0 = 1 by decide), mo_findOrder_167_eq, if_neg (show ¬ nn 0 = 2 by decide), es]
      rfl
    · rw [d, if_neg (show ¬ nn 1 = 0 by decide), mo_findOrder_148_eq, if_pos (show nn 1 = 1 by decide), mo_findOrder_167_eq, if_neg (show ¬ nn 1 = 2 by decide), es]
      rfl
    · rw [d, if_neg (show ¬ nn 2 = 0 by decide), mo_findOrder_148_eq, if_neg (show ¬ nn 2 = 1 by decide), mo_findOrder_167_eq, if_pos (show nn 2 = 2 by decide), es]
      rfl
theorem pricesM (hJ : J t) (h7 : jnN t ≤ 7) (hK : K t s) {c : Nat} (x1 x2 x3 y : Int32) : mo_findOrder_110 s x1 x2 x3 y (nn (mkV t c 0)) (nn (mkV t c 1)) (nn (mkV t c 2)) (-1) = mo_findOrder_263 s x1 x2 x3 (nn (mkV t c 0)) (nn (mkV t c 1)) (aV t s c 0) (aV t s c 1) (aV t s c 2) := by
  obtain ⟨en, h3, -⟩ := nsh_ok hJ
  have emm := (J_F hJ).1.1
  have hR7 : 2 ^ jnN t ≤ 2 ^ 7 := Nat.pow_le_pow_right (by omega) h7
  have l0 := mkV_lt t c 0
  have l1 := mkV_lt t c 1
  have l2 := mkV_lt t c 2
  have g : s 183 49 = nn (nsh t) := by rw [K_m hK 49 rfl, emm, en]
  have k0 : nn (nsh t) ≤ 0 ↔ ¬ 0 < nsh t := (nn_le (j := 0) (by omega) (by omega)).trans (by omega)
  have k1 : nn (nsh t) ≤ 1 ↔ ¬ 1 < nsh t := (nn_le (j := 1) (by omega) (by omega)).trans (by omega)
  have k2 : nn (nsh t) ≤ 2 ↔ ¬ 2 < nsh t := (nn_le (j := 2) (by omega) (by omega)).trans (by omega)
  have a0 : ∀ D2 : Int32, ∀ t0 : Int32, mo_findOrder_238 s x1 x2 x3 (nn (mkV t c 0)) (nn (mkV t c 1)) (nn (mkV t c 2)) D2 t0 = mo_findOrder_263 s x1 x2 x3 (nn (mkV t c 0)) (nn (mkV t c 1)) D2 t0 (aV t s c 2) := fun D2 t0 => by
    rw [mo_findOrder_238_eq, g]
    unfold aV
    by_cases w : 2 < nsh t
    · rw [if_neg (fun z => (k2.mp z) w), if_pos w, show (256 : Int32) + nn (mkV t c 2) = nn (256 + mkV t c 2) from nn_a 256 _, nn_b (i := 256 + mkV t c 2) (n := 384) (by omega) (by decide), gd_t, nn_n (by omega)]
    · rw [if_pos (k2.mpr w), if_neg w]
  have a1 : ∀ t0 : Int32, mo_findOrder_213 s x1 x2 x3 (nn (mkV t c 0)) (nn (mkV t c 1)) (nn (mkV t c 2)) t0 = mo_findOrder_263 s x1 x2 x3 (nn (mkV t c 0)) (nn (mkV t c 1)) t0 (aV t s c 1) (aV t s c 2) := fun t0 => by
    rw [mo_findOrder_213_eq, g, a0]
    by_cases w : 1 < nsh t
    · rw [if_neg (fun z => (k1.mp z) w), show (128 : Int32) + nn (mkV t c 1) = nn (128 + mkV t c 1) from nn_a 128 _, nn_b (i := 128 + mkV t c 1) (n := 384) (by omega) (by decide), gd_t, nn_n (by omega), a0, show aV t s c 1 = s 223 (128 + mkV t c 1) from if_pos w]
    · rw [if_pos (k1.mpr w), show aV t s c 1 = 0 from if_neg w]
  rw [mo_findOrder_110_eq, if_pos (by decide), g, a1]
  by_cases w : 0 < nsh t
  · rw [if_neg (fun z => (k0.mp z) w), nn_b (i := mkV t c 0) (n := 384) (by omega) (by decide), gd_t, nn_n (by omega), a1, show aV t s c 0 = s 223 (128 * 0 + mkV t c 0) from if_pos w, show 128 * 0 + mkV t c 0 = mkV t c 0 by omega]
  · rw [if_pos (k0.mpr w), show aV t s c 0 = 0 from if_neg w]
theorem aV_ok (hU : ∀ j D, j < nsh t → D < 2 ^ jnN t → coP t j D (U j D)) (hT : ∀ j D, j < nsh t → D < 2 ^ jnN t → moP t j D (s 223 (128 * j + D))) {c : Nat} (j : Nat) : (j < nsh t → fsB t j (mkV t c j) = false → aV t s c j = 1000000000) ∧ (j < nsh t → fsB t j (mkV t c j) = true → aV t s c j = U j (mkV t c j)) ∧ ((j < nsh t → fsB t j (mkV t c j) = true) → (aV t s c j).toInt < 1000000000) ∧ (¬ j < nsh t → aV t s c j = 0) := by
  unfold aV
  have hl := mkV_lt t c j
  refine ⟨fun h f => ?_, fun h f => ?_, fun hf => ?_, fun h => if_neg h⟩
  · rw [if_pos h]; exact (hT j _ h hl).1 f
  · rw [if_pos h]; exact (hT j _ h hl).2 f _ (hU j _ h hl)
  · by_cases h : j < nsh t
    · rw [if_pos h, (hT j _ h hl).2 (hf h) _ (hU j _ h hl)]
      have := ((hU j _ h hl).2 (hf h)).2.2
      omega
    · rw [if_neg h]; decide
theorem sumM (h3 : nsh t ≤ 3) (hU : ∀ j D, j < nsh t → D < 2 ^ jnN t → coP t j D (U j D)) (hT : ∀ j D, j < nsh t → D < 2 ^ jnN t → moP t j D (s 223 (128 * j + D))) {c : Nat} (hok : okB t c = true) : (aV t s c 0 + aV t s c 1) + aV t s c 2 = ptV U t c (nsh t) := by
  have h := fun j => aV_ok (s := s) (c := c) hU hT j
  have hf := ok_iff.mp hok
  have e1 : ∀ a : Int32, a + 0 = a := Int32.add_zero
  have e2 : ∀ a : Int32, 0 + a = a := Int32.zero_add
  have m4 : nsh t = 0 ∨ nsh t = 1 ∨ nsh t = 2 ∨ nsh t = 3 := by omega
  rcases m4 with m | m | m | m
  · rw [(h 0).2.2.2 (by omega), (h 1).2.2.2 (by omega), (h 2).2.2.2 (by omega), m]; rfl
  · rw [(h 0).2.1 (by omega) (hf 0 (by omega)), (h 1).2.2.2 (by omega), (h 2).2.2.2 (by omega), m, e1, e1]
    show _ = 0 + U 0 (mkV t c 0)
    rw [e2]
  · rw [(h 0).2.1 (by omega) (hf 0 (by omega)), (h 1).2.1 (by omega) (hf 1 (by omega)), (h 2).2.2.2 (by omega), m, e1]
    show _ = 0 + U 0 (mkV t c 0) + U 1 (mkV t c 1)
    rw [e2]
  · rw [(h 0).2.1 (by omega) (hf 0 (by omega)), (h 1).2.1 (by omega) (hf 1 (by omega)), (h 2).2.1 (by omega) (hf 2 (by omega)), m]
    show _ = 0 + U 0 (mkV t c 0) + U 1 (mkV t c 1) + U 2 (mkV t c 2)
    rw [e2]
theorem fitM (h3 : nsh t ≤ 3) (hU : ∀ j D, j < nsh t → D < 2 ^ jnN t → coP t j D (U j D)) (hT : ∀ j D, j < nsh t → D < 2 ^ jnN t → moP t j D (s 223 (128 * j + D))) {c : Nat} (x1 x2 x3 x5 x6 : Int32) : mo_findOrder_263 s x1 x2 x3 x5 x6 (aV t s c 0) (aV t s c 1) (aV t s c 2) = mo_findOrder_294 s x1 x2 x3 x5 x6 (aV t s c 0) (aV t s c 1) (aV t s c 2) (bi (okB t c)) := by
  have h := fun j => aV_ok (s := s) (c := c) hU hT j
  have em : (1000000000 : Int32).toInt = 1000000000 := rfl
  have big : ∀ j, (1000000000 : Int32) ≤ aV t s c j → okB t c = false := fun j hj => by
    cases e : okB t c with
    | false => rfl
    | true =>
      have := (h j).2.2.1 (fun hl => ok_iff.mp e j hl)
      rw [Int32.le_iff_toInt_le] at hj
      omega
  rw [mo_findOrder_263_eq]
  by_cases c0 : (1000000000 : Int32) ≤ aV t s c 0
  · rw [if_pos c0, big 0 c0]; rfl
  · rw [if_neg c0]
    by_cases c1 : (1000000000 : Int32) ≤ aV t s c 1
    · rw [if_pos c1, big 1 c1]; rfl
    · rw [if_neg c1]
      by_cases c2 : (1000000000 : Int32) ≤ aV t s c 2
      · rw [if_pos c2, big 2 c2]; rfl
      · rw [if_neg c2]
        have : okB t c = true := ok_iff.mpr (fun j hj => by
          cases e : fsB t j (mkV t c j) with
          | true => rfl
          | false =>
            have ha := (h j).1 hj e
            have j3 : j = 0 ∨ j = 1 ∨ j = 2 := by omega
            rcases j3 with r | r | r
            · rw [r] at ha; exact absurd (by rw [ha]; decide) c0
            · rw [r] at ha; exact absurd (by rw [ha]; decide) c1
            · rw [r] at ha; exact absurd (by rw [ha]; decide) c2)
        rw [this]; rfl
theorem shipsM (h7 : jnN t ≤ 7) (h3 : nsh t ≤ 3) {c : Nat} (hm : 0 < jnN t → 0 < nsh t) (w1 : s 183 56 = nn (jnN t)) (x1 x2 x3 : Int32) : ∃ s', mo_findOrder_337 s x1 x2 x3 (nn (mkV t c 0)) (nn (mkV t c 1)) 0 = mo_findOrder_85 s' x1 x2 (x3 + 1) ∧ Ch [225] [] s s' ∧ ∀ k, k < jnN t → s' 225 k = nn (dgN (nsh t) (jnN t) c k) := by
  have hR7 : 2 ^ jnN t ≤ 2 ^ 7 := Nat.pow_le_pow_right (by omega) h7
  have l0 := mkV_lt t c 0
  have l1 := mkV_lt t c 1
  obtain ⟨s1, e1, e2, e3⟩ := loopS (σ := mSt) (fun s1 k => mo_findOrder_337 s1 x1 x2 x3 (nn (mkV t c 0)) (nn (mkV t c 1)) (nn k)) (jnN t) (fun k s1 => Ch [225] [] s s1 ∧ ∀ i, i < k → s1 225 i = nn (dgN (nsh t) (jnN t) c i)) (i0 := 0) (s0 := s) (fun k s1 hk hI => by
    show ∃ s', mo_findOrder_337 s1 x1 x2 x3 (nn (mkV t c 0)) (nn (mkV t c 1)) (nn k) = mo_findOrder_337 s' x1 x2 x3 (nn (mkV t c 0)) (nn (mkV t c 1)) (nn (k + 1)) ∧ _
    have hd := dg_lt (n := jnN t) (hm (by omega)) c k
    have b : ∀ j, (mkV t c j).testBit k = decide (dgN (nsh t) (jnN t) c k = j) := fun j => by
      unfold mkV
      rw [mk_bit, decide_eq_true hk, Bool.true_and]
    refine ⟨wr s1 225 k (nn (dgN (nsh t) (jnN t) c k)), ?_, Ch_w rfl rfl hI.1, fun i hi => ?_⟩
    · have w : s1 183 56 = nn (jnN t) := by rw [hI.1.2 56 rfl]; exact w1
      rw [mo_findOrder_337_eq s1 x1 x2 x3 _ _ (nn k), w, if_neg (nle hk (by omega)), nn_b (i := k) (n := 8) (by omega) (by decide), nn_n (by omega), nn_s]
      simp only [gd_t]
      have d3 : dgN (nsh t) (jnN t) c k = 0 ∨ dgN (nsh t) (jnN t) c k = 1 ∨ dgN (nsh t) (jnN t) c k = 2 := by omega
      rcases d3 with d | d | d
      · rw [if_pos ((bis1 (by omega) (by omega)).mpr (by rw [b, d]; rfl)), d]; rfl
      · rw [if_neg (fun z => by rw [(bis1 (by omega) (by omega)), b, d] at z; cases z), if_pos ((bis1 (by omega) (by omega)).mpr (by rw [b, d]; rfl)), d]; rfl
      · rw [if_neg (fun z => by rw [(bis1 (by omega) (by omega)), b, d] at z; cases z), if_neg (fun z => by rw [(bis1 (by omega) (by omega)), b, d] at z; cases z), d]; rfl
    · rw [wr_at]
      by_cases e : i = k
      · rw [e, upd_at]
      · rw [upd_ne e]; exact hI.2 i (by omega)) (Nat.zero_le _) ⟨Ch_rf, fun i hi => by omega⟩
  have e1 : mo_findOrder_337 s x1 x2 x3 (nn (mkV t c 0)) (nn (mkV t c 1)) 0 = mo_findOrder_337 s1 x1 x2 x3 (nn (mkV t c 0)) (nn (mkV t c 1)) (nn (jnN t)) := e1
  refine ⟨s1, ?_, e2, e3⟩
  rw [e1, mo_findOrder_337_eq, e2.2 56 rfl, w1, if_pos (yle (Nat.le_refl _) (by omega))]
end FBM
