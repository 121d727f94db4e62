/-! a whole turn, by class and reference -/
section TRN
variable {t s : mSt}
theorem chooseAllC (hJ : J t) (hK : K t s) (h48 : ∀ l, l < nln t → s 48 l = rmV t false l) {k : Nat} (hk : k < 61) (hp : k = 0 ∨ ∀ l, l < nln t → s (68 + (k - 1)) l = nn (ldS t (swA t (k - 1)) l)) : ∃ s', tr_chooseAll s (nn k) = rV s' ∧ Ch swL [] s s' ∧ s' 47 = s 47 ∧ (∀ j, j < 61 → j ≠ k → s' (68 + j) = s (68 + j)) ∧ (∀ l, l < nln t → s' (68 + k) l = nn (ldS t (swA t k) l)) ∧ ∀ q, q < ndm t → s' 66 q = nn (swW t (swA t k) q).length ∧ ∀ j, j < (swW t (swA t k) q).length → s' (54 + q) j = nn ((swW t (swA t k) q).getD j 0) := by
  obtain ⟨el, h12, -⟩ := nln_ok hJ
  obtain ⟨ed, hd12, -⟩ := ndm_ok hJ
  obtain ⟨en, h8, -⟩ := nld_ok hJ
  have hA := swA_le hJ k
  rw [tr_chooseAll_eq, if_neg (show ¬ nn k < 0 from nlt (j := 0) (by omega) (by omega)), if_pos (show nn k ≤ 60 from yle (j := 60) (by omega) (by omega))]
  -- prices
  obtain ⟨s1, e1, e2, e3, e5⟩ := loopS (σ := mSt) (fun s1 i => tr_chooseAll_13 s1 (nn k) (nn i)) (nln t) (fun i s1 => (∀ x, x ≠ 50 → x ≠ 68 + k → s1 x = s x) ∧ (∀ j, j < i → s1 50 j = if opS t j = true then nn (16 * swA t k j + 1) else 0) ∧ ∀ j, j < i → s1 (68 + k) j = nn 0) (i0 := 0) (s0 := s) (fun i s1 hi hI => by
    show ∃ s', tr_chooseAll_13 s1 (nn k) (nn i) = tr_chooseAll_13 s' (nn k) (nn (i + 1)) ∧ _
    obtain ⟨c1, c2, c3⟩ := hI
    have h25 : s1 25 = t 25 := by rw [c1 25 (by omega) (by omega), K_at hK 25 rfl]
    have hi1 : s1 48 i = rmV t false i := by rw [c1 48 (by omega) (by omega)]; exact h48 i hi
    have st : tr_chooseAll_13 s1 (nn k) (nn i) = tr_chooseAll_42 s1 (nn k) (nn i) (nn (swA t k i - 1)) := by
      rw [tr_chooseAll_13_eq, h25, el, if_neg (nle hi (by omega))]
      by_cases z : k = 0
      · rw [if_pos (show nn k = 0 by rw [z]; rfl), z]; rfl
      · rw [if_neg (show ¬ nn k = 0 from fun w => z ((nn_eq (j := 0) (by omega) (by omega)).mp w))]
        have e1 : nn k - 1 = nn (k - 1) := nn_d (j := 1) (by omega)
        obtain ⟨m, rfl⟩ : ∃ m, k = m + 1 := ⟨k - 1, by omega⟩
        rcases hp with hp | hp
        · exact absurd hp z
        · have hrow : s1 (68 + (m + 1 - 1)) i = nn (ldS t (swA t (m + 1 - 1)) i) := by rw [c1 _ (by omega) (by omega)]; exact hp i hi
          rw [e1, nn_b (i := m + 1 - 1) (n := 61) (by omega) (by decide), gd_t, nn_n (by omega), blt_t (show m + 1 - 1 < 61 by omega), gd_t, nn_b (i := i) (n := 12) (by omega) (by decide), gd_t, nn_n (by omega), hrow]
          congr 2
          show ldS t (swA t m) i = 1 + ldS t (swA t m) i - 1
          omega
    have h1 : 1 ≤ swA t k i := by
      cases k with
      | zero => exact Nat.le_refl _
      | succ k => show 1 ≤ 1 + _; omega
    have k69 : ∀ v, tr_chooseAll_69 s1 (nn k) (nn i) v (nn i) = tr_chooseAll_13 (wr (wr s1 50 i v) (68 + k) i 0) (nn k) (nn (i + 1)) := fun v => by
      rw [tr_chooseAll_69_eq, nn_b (i := i) (n := 12) (by omega) (by decide), gd_t, nn_b (i := k) (n := 61) hk (by decide), gd_t, nn_n (by omega), nn_n (by omega), blt_t hk, gd_t, gd_t, nn_s]
    refine ⟨wr (wr s1 50 i (if opS t i = true then nn (16 * swA t k i + 1) else 0)) (68 + k) i 0, ?_, fun x hx1 hx2 => ?_, fun j hj => ?_, fun j hj => ?_⟩
    · rw [st, tr_chooseAll_42_eq, nn_b (i := i) (n := 12) (by omega) (by decide), gd_t, nn_n (by omega), hi1, k69, k69]
      unfold opS
      by_cases w : rmV t false i ≤ 0
      · rw [if_pos w, decide_eq_true w, if_neg (by decide)]
      · rw [if_neg w, decide_eq_false w, if_pos (by decide)]
        have : (1 + nn (swA t k i - 1)) * 16 + 1 = nn (16 * swA t k i + 1) := by
          rw [show (1 : Int32) = nn 1 from rfl, nn_a, show (16 : Int32) = nn 16 from rfl, nn_m, nn_a]
          congr 1
          omega
        rw [this]
    · rw [wr_ne _ _ _ hx2, wr_ne _ _ _ hx1]; exact c1 x hx1 hx2
    · rw [wr_ne _ _ _ (by omega), wr_at]
      by_cases e : j = i
      · rw [e, upd_at]
      · rw [upd_ne e]; exact c2 j (by omega)
    · rw [wr_at, wr_ne _ _ _ (by omega)]
      by_cases e : j = i
      · rw [e, upd_at]; rfl
      · rw [upd_ne e]; exact c3 j (by omega)) (by omega) ⟨fun _ _ _ => rfl, fun j hj => by omega, fun j hj => by omega⟩
  have e1 : tr_chooseAll_13 s (nn k) 0 = tr_chooseAll_13 s1 (nn k) (nn (nln t)) := e1
  have c1 : Ch swL [] s s1 := ⟨fun x hx _ => e2 x (fun e => by rw [e] at hx; cases hx) (fun e => by rw [e, swL_row hk] at hx; cases hx), fun j _ => by rw [e2 183 (by omega) (by omega)]⟩
  have K1 : K t s1 := K_ch c1 rfl rfl hK
  -- the lands
  obtain ⟨s2, f1, f2, f3, f4, f5, f6⟩ := loopS (σ := mSt) (fun s2 T => tr_chooseAll_87 s2 (nn k) (nn T)) (nld t) (fun T s2 => (Ch swL [] s1 s2 ∧ s2 50 = s1 50) ∧ s2 47 = s1 47 ∧ (∀ j, j < 61 → j ≠ k → s2 (68 + j) = s1 (68 + j)) ∧ (∀ l, l < nln t → s2 (68 + k) l = nn (psm (cbN t (swA t k) l) (fun p => decide (tgN t p < T)) (ndm t))) ∧ ∀ q, q < ndm t → tgN t q < T → s2 66 q = nn (swW t (swA t k) q).length ∧ ∀ j, j < (swW t (swA t k) q).length → s2 (54 + q) j = nn ((swW t (swA t k) q).getD j 0)) (i0 := 0) (s0 := s1) (fun T s2 hT hI => by
    show ∃ s', tr_chooseAll_87 s2 (nn k) (nn T) = tr_chooseAll_87 s' (nn k) (nn (T + 1)) ∧ _
    obtain ⟨⟨i1, i1b⟩, i2, i3, i4, i5⟩ := hI
    have K2 : K t s2 := K_ch i1 rfl rfl K1
    obtain ⟨s3, g1, ⟨g2, g2b, g2c⟩, g3, g4, g5, g6⟩ := chooseToC hJ K2 hk hA (fun l hl => by rw [i1b]; exact e3 l hl) hT i4
    refine ⟨s3, ?_, ⟨Ch_tr i1 g2, by rw [g2b, i1b]⟩, by rw [g2c, i2], fun j hj hne => by rw [g3 j hj hne, i3 j hj hne], fun l hl => ?_, fun q hq hqT => ?_⟩
    · rw [tr_chooseAll_87_eq s2 (nn k) (nn T), K_at K2 25 rfl, en, if_neg (nle hT (by omega)), g1, bV_rV, nn_s]
    · rw [g4 l hl]
      congr 1
      refine (psm_add (fun i => ?_) (fun i w => ?_) (ndm t)).symm
      · by_cases c1 : tgN t i < T
        · rw [decide_eq_true c1, decide_eq_true (show tgN t i < T + 1 by omega)]; rfl
        · by_cases c2 : tgN t i = T
          · rw [decide_eq_true c2, decide_eq_true (show tgN t i < T + 1 by omega), Bool.or_true]
          · rw [decide_eq_false c1, decide_eq_false c2, decide_eq_false (show ¬ tgN t i < T + 1 by omega)]; rfl
      · have h1 := of_decide_eq_true w.1
        have h2 := of_decide_eq_true w.2
        omega
    · by_cases c : tgN t q = T
      · exact g5 q hq c
      · obtain ⟨w1, w2⟩ := g6 q (by omega) (Or.inr c)
        rw [w1, w2]
        exact i5 q hq (by omega)) (by omega) ⟨⟨Ch_rf, rfl⟩, rfl, fun _ _ _ => rfl, fun l hl => by rw [e5 l hl, psm_no (fun i _ => decide_eq_false (by omega))], fun q _ h => by omega⟩
  have f1 : tr_chooseAll_87 s1 (nn k) (nn 0) = tr_chooseAll_87 s2 (nn k) (nn (nld t)) := f1
  have K2 : K t s2 := K_ch f2.1 rfl rfl K1
  refine ⟨s2, ?_, Ch_tr c1 f2.1, by rw [f3, e2 47 (by omega) (by omega)], fun j hj hne => by rw [f4 j hj hne, e2 _ (by omega) (by omega)], fun l hl => ?_, fun q hq => f6 q hq (dm_ok hJ hq).2.2.2.2.1⟩
  · rw [e1, tr_chooseAll_13_eq, K_at K1 25 rfl, el, if_pos (yle (Nat.le_refl _) (by omega))]
    refine Eq.trans f1 ?_
    rw [tr_chooseAll_87_eq, K_at K2 25 rfl, en, if_pos (yle (Nat.le_refl _) (by omega))]
  · rw [f5 l hl]
    congr 1
    exact psm_cg (fun q hq => decide_eq_true (dm_ok hJ hq).2.2.2.2.1)
def mL3 : List Nat := [203, 204, 205, 206, 208]
theorem swingsOnceM (hJ : J t) (hK : K t s) (h201 : ∀ l, l < nln t → s 201 l = rmV t false l) {k : Nat} (hk : k < 61) (hp : k = 0 ∨ ∀ l, l < nln t → s 208 (12 * (k - 1) + l) = nn (ldS t (swA t (k - 1)) l)) : ∃ s', mo_swingsOnce s (nn k) = rV s' ∧ Ch mL3 [] s s' ∧ (∀ j, j < 12 * k → s' 208 j = s 208 j) ∧ (∀ l, l < nln t → s' 208 (12 * k + l) = nn (ldS t (swA t k) l)) ∧ ∀ q, q < ndm t → s' 203 q = wlV (swW t (swA t k) q) ∧ ∀ j, j < (swW t (swA t k) q).length → s' 204 (8 * q + j) = nn ((swW t (swA t k) q).getD j 0) := by
  obtain ⟨el, h12, -⟩ := nln_ok hJ
  obtain ⟨ed, hd12, -⟩ := ndm_ok hJ
  obtain ⟨en, h8, -⟩ := nld_ok hJ
  have em3 := (J_N hJ).1.2.1.1
  have em27 := (J_D hJ).1.1
  obtain ⟨-, ⟨pd1, pd2, pd3⟩, -⟩ := id (J_D hJ)
  have hA := swA_le hJ k
  have i12 : (12 : Int32) * nn k = nn (12 * k) := nn_m 12 k
  rw [mo_swingsOnce_eq]
  obtain ⟨s1, e1, e2, e3, e4, e5⟩ := loopS (σ := mSt) (fun s1 i => mo_swingsOnce_2 s1 (nn k) (nn i)) (nln t) (fun i s1 => Ch mL3 [] s s1 ∧ (∀ j, j < i → s1 206 j = if opS t j = true then nn (100 * swA t k j + 1) else -1) ∧ (∀ j, j < i → s1 208 (12 * k + j) = nn 0) ∧ ∀ j, j < 12 * k → s1 208 j = s 208 j) (i0 := 0) (s0 := s) (fun i s1 hi hI => by
    show ∃ s', mo_swingsOnce_2 s1 (nn k) (nn i) = mo_swingsOnce_2 s' (nn k) (nn (i + 1)) ∧ _
    obtain ⟨c1, c2, c3, c4⟩ := hI
    have hK1 : K t s1 := K_ch c1 rfl rfl hK
    have hi1 : s1 201 i = rmV t false i := by rw [c1.1 201 rfl rfl]; exact h201 i hi
    have h1 : 1 ≤ swA t k i := by
      cases k with
      | zero => exact Nat.le_refl _
      | succ k => show 1 ≤ 1 + _; omega
    have st : mo_swingsOnce_2 s1 (nn k) (nn i) = mo_swingsOnce_31 s1 (nn k) (nn i) (nn (swA t k i - 1)) := by
      rw [mo_swingsOnce_2_eq, K_m hK1 3 rfl, em3, el, if_neg (nle hi (by omega))]
      by_cases z : k = 0
      · rw [if_pos (show nn k = 0 by rw [z]; rfl), z]; rfl
      · rw [if_neg (show ¬ nn k = 0 from fun w => z ((nn_eq (j := 0) (by omega) (by omega)).mp w))]
        have e1 : nn k - 1 = nn (k - 1) := nn_d (j := 1) (by omega)
        have e2 : (12 : Int32) * nn (k - 1) = nn (12 * (k - 1)) := nn_m 12 (k - 1)
        rcases hp with hp | hp
        · exact absurd hp z
        · rw [e1, e2, nn_a, nn_b (i := 12 * (k - 1) + i) (n := 732) (by omega) (by decide), gd_t, nn_n (by omega), c4 _ (by omega), hp i hi]
          obtain ⟨m, rfl⟩ : ∃ m, k = m + 1 := ⟨k - 1, by omega⟩
          congr 2
          show ldS t (swA t m) i = 1 + ldS t (swA t m) i - 1
          omega
    have k58 : ∀ v, mo_swingsOnce_58 s1 (nn k) (nn i) v (nn i) = mo_swingsOnce_2 (wr (wr s1 206 i v) 208 (12 * k + i) 0) (nn k) (nn (i + 1)) := fun v => by
      rw [mo_swingsOnce_58_eq, nn_b (i := i) (n := 12) (by omega) (by decide), gd_t, i12, nn_a, nn_b (i := 12 * k + i) (n := 732) (by omega) (by decide), gd_t, nn_n (by omega), nn_n (by omega), nn_s]
    refine ⟨wr (wr s1 206 i (if opS t i = true then nn (100 * swA t k i + 1) else -1)) 208 (12 * k + i) 0, ?_, Ch_w rfl rfl (Ch_w rfl rfl c1), fun j hj => ?_, fun j hj => ?_, fun j hj => ?_⟩
    · rw [st, mo_swingsOnce_31_eq, nn_b (i := i) (n := 12) (by omega) (by decide), gd_t, nn_n (by omega), hi1, k58, k58]
      unfold opS
      by_cases w : rmV t false i ≤ 0
      · rw [if_pos w, decide_eq_true w, if_neg (by decide)]
      · rw [if_neg w, decide_eq_false w, if_pos (by decide)]
        have : 100 * (1 + nn (swA t k i - 1)) + 1 = nn (100 * swA t k i + 1) := by
          rw [show (1 : Int32) = nn 1 from rfl, nn_a, show (100 : Int32) = nn 100 from rfl, nn_m, nn_a]
          congr 1
          omega
        rw [this]
    · rw [wr_ne _ _ _ (by omega), wr_at]
      by_cases e : j = i
      · rw [e, upd_at]
      · rw [upd_ne e]; exact c2 j (by omega)
    · rw [wr_at, wr_ne _ _ _ (by omega)]
      by_cases e : j = i
      · rw [e, upd_at]; rfl
      · rw [upd_ne (by omega)]; exact c3 j (by omega)
    · rw [wr_at, upd_ne (by omega), wr_ne _ _ _ (by omega)]
      exact c4 j hj) (by omega) ⟨Ch_rf, fun j hj => by omega, fun j hj => by omega, fun _ _ => rfl⟩
  have e1 : mo_swingsOnce_2 s (nn k) (nn 0) = mo_swingsOnce_2 s1 (nn k) (nn (nln t)) := e1
  have K1 : K t s1 := K_ch e2 rfl rfl hK
  obtain ⟨s2, f1, f2, f3, f4, f5, f6⟩ := loopS (σ := mSt) (fun s2 q => mo_swingsOnce_79 s2 (nn k) (nn q)) (ndm t) (fun q s2 => Ch mL3 [] s s2 ∧ s2 206 = s1 206 ∧ (∀ j, j < 12 * k → s2 208 j = s 208 j) ∧ (∀ l, l < nln t → s2 208 (12 * k + l) = nn (psm (cbN t (swA t k) l) (fun _ => true) q)) ∧ ∀ p, p < q → s2 203 p = wlV (swW t (swA t k) p) ∧ ∀ j, j < (swW t (swA t k) p).length → s2 204 (8 * p + j) = nn ((swW t (swA t k) p).getD j 0)) (i0 := 0) (s0 := s1) (fun q s2 hq hI => by
    show ∃ s', mo_swingsOnce_79 s2 (nn k) (nn q) = mo_swingsOnce_79 s' (nn k) (nn (q + 1)) ∧ _
    obtain ⟨i1, i2, i3, i4, i5⟩ := hI
    have hK2 : K t s2 := K_ch i1 rfl rfl hK
    obtain ⟨d1, d2, d3, d4, d5, d6, d7⟩ := dm_ok hJ hq
    have eps : ∀ l, psm (cbN t (swA t k) l) (fun _ => true) (q + 1) = psm (cbN t (swA t k) l) (fun _ => true) q + (if true = true then cbN t (swA t k) l q else 0) := fun l => rfl
    have eW : swW t (swA t k) q = if t 46 q = 0 then [] else pthL t (opS t) (swA t k) 100 (srN t q) (tgN t q) := rfl
    have z0 : t 46 q ≤ 0 ↔ t 46 q = 0 := by
      have := d7.1
      have u0 : (0 : Int32).toInt = 0 := rfl
      rw [Int32.le_iff_toInt_le, ← Int32.toInt_inj]
      omega
    rw [mo_swingsOnce_79_eq s2 (nn k) (nn q), K_m hK2 27 rfl, em27, ed, if_neg (nle hq (by omega)), nn_b (i := q) (n := 12) d1 (by decide), gd_t, gd_t, nn_n (by omega), K_at hK2 200 rfl, pd3, nn_s]
    have cw : Ch mL3 [] s2 (wr s2 203 q (-4)) := Ch_w rfl rfl Ch_rf
    by_cases z : t 46 q = 0
    · rw [if_pos (z0.mpr z)]
      rw [if_pos z] at eW
      have ecb : ∀ l, cbN t (swA t k) l q = 0 := fun l => by
        show (if inL (swW t (swA t k) q) l = true then mqN t q else 0) = 0
        rw [eW]; rfl
      refine ⟨wr s2 203 q (-4), rfl, Ch_tr i1 cw, by rw [wr_ne _ _ _ (by omega)]; exact i2, fun j hj => by rw [wr_ne _ _ _ (by omega)]; exact i3 j hj, fun l hl => ?_, fun p hp => ?_⟩
      · rw [wr_ne _ _ _ (by omega), eps, ecb, if_pos rfl, Nat.add_zero]; exact i4 l hl
      · rw [wr_at, wr_ne _ _ _ (by omega)]
        by_cases e : p = q
        · subst e
          rw [upd_at, eW]
          exact ⟨rfl, fun j hj => by have : ([] : List Nat).length = 0 := rfl; omega⟩
        · rw [upd_ne e]
          exact i5 p (by omega)
    · rw [if_neg (fun w => z (z0.mp w))]
      rw [if_neg z] at eW
      obtain ⟨s4, k1, k2, k3, k4, k5⟩ := findWayM hJ (K_ch cw rfl rfl hK2) (op := opS t) (a := swA t k) (c := 100) (fun l hl => by rw [wr_ne _ _ _ (by omega), i2]; exact e3 l hl) hA (by omega) d1 d3 d5 d2 d4 d6
      rw [← eW] at k3 k4
      have hlen : (swW t (swA t k) q).length ≤ 7 := swW_len
      have hget := swW_mem hJ (a := swA t k) hq
      have hnd := swW_nodup hJ (a := swA t k) hq
      obtain ⟨em, hmq⟩ := mq_ok hJ hq
      have ecb : ∀ l, cbN t (swA t k) l q = if inL (swW t (swA t k) q) l = true then mqN t q else 0 := fun l => rfl
      have c4 : Ch mL3 [] s s4 := Ch_tr (Ch_tr i1 cw) (Ch_sub k2 rfl rfl)
      have K4 : K t s4 := K_ch c4 rfl rfl hK
      have h208 : s4 208 = s2 208 := by rw [k2.1 208 rfl rfl, wr_ne _ _ _ (by omega)]
      have h206 : s4 206 = s1 206 := by rw [k2.1 206 rfl rfl, wr_ne _ _ _ (by omega), i2]
      have h203 : s4 203 = upd (s2 203) q (wlV (swW t (swA t k) q)) := by rw [k3, wr_at, upd_upd]
      have hother : ∀ p, p < q → s4 203 p = wlV (swW t (swA t k) p) ∧ ∀ j, j < (swW t (swA t k) p).length → s4 204 (8 * p + j) = nn ((swW t (swA t k) p).getD j 0) := fun p hp => by
        have hl7 : (swW t (swA t k) p).length ≤ 7 := swW_len
        rw [h203, upd_ne (by omega)]
        exact ⟨(i5 p hp).1, fun j hj => by rw [k5 _ (by omega), wr_ne _ _ _ (by omega)]; exact (i5 p hp).2 j hj⟩
      generalize hL : swW t (swA t k) q = L at *
      have i8 : (8 : Int32) * nn q = nn (8 * q) := nn_m 8 q
      have h4q : s4 203 q = wlV L := by rw [h203, upd_at]
      obtain ⟨s5, m1, m2, m3, m4⟩ := loopS (σ := mSt) (fun s5 i => mo_swingsOnce_111 s5 (nn k) (nn q) (nn i)) L.length (fun i s5 => Ch [208] [] s4 s5 ∧ (∀ j, j < 12 * k → s5 208 j = s 208 j) ∧ ∀ l, l < nln t → s5 208 (12 * k + l) = nn (adZ (fun l => psm (cbN t (swA t k) l) (fun _ => true) q) (mqN t q) L i l)) (i0 := 0) (s0 := s4) (fun i s5 hi hI' => by
        show ∃ s', mo_swingsOnce_111 s5 (nn k) (nn q) (nn i) = mo_swingsOnce_111 s' (nn k) (nn q) (nn (i + 1)) ∧ _
        obtain ⟨c1, c2, c3⟩ := hI'
        have hg := hget i hi
        have hK5 : K t s5 := K_ch c1 rfl rfl K4
        have h46 : s5 200 q = nn (mqN t q) := by rw [K_at hK5 200 rfl, pd3]; exact em
        have hrow : s5 204 (8 * q + i) = nn (L.getD i 0) := by rw [Ch1 c1 (by omega)]; exact k4 i hi
        refine ⟨wr s5 208 (12 * k + L.getD i 0) (nn (adZ (fun l => psm (cbN t (swA t k) l) (fun _ => true) q) (mqN t q) L i (L.getD i 0) + mqN t q)), ?_, Ch_w rfl rfl c1, fun j hj => ?_, fun l hl => ?_⟩
        · rw [mo_swingsOnce_111_eq s5 (nn k) (nn q) (nn i), nn_b (i := q) (n := 12) d1 (by decide), gd_t, gd_t, nn_n (by omega), Ch1 c1 (show 203 ≠ 208 by omega), h4q]
          unfold wlV
          rw [if_neg (show ¬ L.length = 0 by omega), if_neg (nle hi (by omega)), i8, nn_a, nn_b (i := 8 * q + i) (n := 96) (by omega) (by decide), gd_t, nn_n (by omega), hrow, i12, nn_a, nn_b (i := 12 * k + L.getD i 0) (n := 732) (by omega) (by decide), gd_t, gd_t, nn_n (by omega), c3 _ hg, h46, nn_a, nn_s]
        · rw [wr_at, upd_ne (by omega)]; exact c2 j hj
        · rw [wr_at]
          show _ = nn (if l = L.getD i 0 then adZ (fun l => psm (cbN t (swA t k) l) (fun _ => true) q) (mqN t q) L i l + mqN t q else adZ (fun l => psm (cbN t (swA t k) l) (fun _ => true) q) (mqN t q) L i l)
          by_cases e : l = L.getD i 0
          · rw [if_pos e, ← e, upd_at]
          · rw [if_neg e, upd_ne (by omega)]; exact c3 l hl) (by omega) ⟨Ch_rf, fun j hj => by rw [h208]; exact i3 j hj, fun l hl => by
            show s4 208 (12 * k + l) = nn (psm (cbN t (swA t k) l) (fun _ => true) q)
            rw [h208]; exact i4 l hl⟩
      have m1 : mo_swingsOnce_111 s4 (nn k) (nn q) 0 = mo_swingsOnce_111 s5 (nn k) (nn q) (nn L.length) := m1
      rw [k1, bV_rV]
      refine ⟨s5, ?_, Ch_tr c4 (Ch_sub m2 rfl rfl), by rw [Ch1 m2 (by omega), h206], m3, fun l hl => ?_, fun p hp => ?_⟩
      · rw [m1, mo_swingsOnce_111_eq, nn_b (i := q) (n := 12) d1 (by decide), gd_t, nn_n (by omega), Ch1 m2 (show 203 ≠ 208 by omega), h4q, nn_s]
        unfold wlV
        by_cases y : L.length = 0
        · rw [if_pos y, y, if_pos (by decide)]
        · rw [if_neg y, if_pos (yle (Nat.le_refl _) (by omega))]
      · rw [m4 l hl, adZ_eq hnd l L.length (Nat.le_refl _), eps, if_pos rfl, ecb]
        rfl
      · rw [Ch1 m2 (show 203 ≠ 208 by omega), Ch1 m2 (show 204 ≠ 208 by omega)]
        by_cases e : p = q
        · rw [e, hL]
          exact ⟨h4q, k4⟩
        · exact hother p (by omega)) (by omega) ⟨e2, rfl, e5, fun l hl => e4 l hl, fun p hp => by omega⟩
  have f1 : mo_swingsOnce_79 s1 (nn k) (nn 0) = mo_swingsOnce_79 s2 (nn k) (nn (ndm t)) := f1
  have K2 : K t s2 := K_ch f2 rfl rfl hK
  refine ⟨s2, ?_, f2, f4, f5, f6⟩
  refine e1.trans ?_
  rw [mo_swingsOnce_2_eq, K_m K1 3 rfl, em3, el, if_pos (yle (Nat.le_refl _) (by omega))]
  refine Eq.trans f1 ?_
  rw [mo_swingsOnce_79_eq, K_m K2 27 rfl, em27, ed, if_pos (yle (Nat.le_refl _) (by omega))]
end TRN
