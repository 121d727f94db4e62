/-! the cases led, way, lineOf -/
def rlW (t : mSt) (x : Int32) (l : Nat) : Int32 := if nn l = x then 0 else rmV t false l
theorem neg1_ne {l : Nat} (hl : l < 100) : ¬ nn l = -1 := fun w => by
  have := congrArg Int32.toInt w
  rw [nn_i (by omega)] at this
  have e4 : (-1 : Int32).toInt = -1 := rfl
  omega
def smV (t : mSt) : Nat → Int32
  | 0 => 0
  | q + 1 => smV t q + t 46 q
theorem gone_lost (t : mSt) (rl : Nat → Int32) (q : Nat) : gnV t rl q + lsV t rl q = smV t q := by
  induction q with
  | zero => rfl
  | succ q ih =>
    show (if t 46 q = 0 then gnV t rl q else if (ldW t rl q).length = 0 then gnV t rl q else gnV t rl q + t 46 q) + (if t 46 q = 0 then lsV t rl q else if (ldW t rl q).length = 0 then lsV t rl q + t 46 q else lsV t rl q) = smV t q + t 46 q
    rw [← ih]
    by_cases z : t 46 q = 0
    · rw [if_pos z, if_pos z, z, Int32.add_zero]
    · rw [if_neg z, if_neg z]
      by_cases y : (ldW t rl q).length = 0
      · rw [if_pos y, if_pos y, Int32.add_assoc]
      · rw [if_neg y, if_neg y, Int32.add_assoc, Int32.add_comm (t 46 q), ← Int32.add_assoc]
section LCS
variable {t s : mSt}
/-- rooms and LED, one behind another -/
theorem ledC (hJ : J t) : ∃ s1 s2, tr_keepRooms t 0 = rV s1 ∧ tr_lead s1 (-1) = rI (lsV t (rlW t (-1)) (ndm t)) s2 ∧ K t s2 ∧ (∀ l, l < nln t → s2 48 l = rmV t false l) ∧ s2 47 11 = gnV t (rlW t (-1)) (ndm t) ∧ s2 47 12 = lbV t (rlW t (-1)) (ndm t) ∧ (∀ l, l < nln t → s2 49 l = LDr t (rlW t (-1)) (ndm t) l) ∧ ∀ q, q < ndm t → s2 66 q = nn (ldW t (rlW t (-1)) q).length ∧ ∀ j, j < (ldW t (rlW t (-1)) q).length → s2 (54 + q) j = nn ((ldW t (rlW t (-1)) q).getD j 0) := by
  obtain ⟨s1, a1, a2, a3⟩ := keepC hJ K_rf false
  have K1 : K t s1 := K_ch a2 rfl rfl K_rf
  obtain ⟨s2, b1, b2, b3, b4, b5, b6⟩ := leadC hJ K1 (R := rmV t false) a3 (-1)
  exact ⟨s1, s2, a1, b1, K_ch b2 rfl rfl K1, fun l hl => by rw [b2.1 48 rfl rfl]; exact a3 l hl, b3, b4, b5, b6⟩
theorem ledM (hJ : J t) (hK : K t s) (x : Int32) (hx : ∀ l, l < nln t → ¬ nn l = x) : ∃ s1 s2, mo_roomsNow s = rV s1 ∧ mo_leads s1 = rI (lsV t (rlW t x) (ndm t)) s2 ∧ K t s1 ∧ K t s2 ∧ (∀ l, l < nln t → s2 201 l = rmV t false l) ∧ s2 183 36 = lsV t (rlW t x) (ndm t) ∧ s2 183 35 = lbV t (rlW t x) (ndm t) ∧ (∀ l, l < nln t → rlW t x l - s2 202 l = LDr t (rlW t x) (ndm t) l) ∧ ∀ q, q < ndm t → s2 203 q = wlV (ldW t (rlW t x) q) ∧ ∀ j, j < (ldW t (rlW t x) q).length → s2 204 (8 * q + j) = nn ((ldW t (rlW t x) q).getD j 0) := by
  obtain ⟨s1, a1, a2, a3⟩ := roomsM hJ hK
  have K1 : K t s1 := K_ch a2 rfl rfl hK
  obtain ⟨s2, b1, b2, b3, b4, b5, b6⟩ := leadsM hJ K1 (rl := rlW t x) (fun l hl => by rw [a3 l hl]; exact (if_neg (hx l hl)).symm)
  exact ⟨s1, s2, a1, b1, K1, K_ch b2 rfl rfl K1, fun l hl => by rw [b2.1 201 rfl rfl]; exact a3 l hl, b3, b4, b5, b6⟩
theorem ldW_len {rl : Nat → Int32} {q : Nat} : (ldW t rl q).length ≤ 7 := by
  show (if t 46 q = 0 then [] else ldP t (LDr t rl q) q).length ≤ 7
  split
  · exact Nat.zero_le _
  · exact pth_len
/-- a place of a way, on both sides -/
theorem stepBoth {s1 s2 : mSt} {L : List Nat} (hL : L.length ≤ 7) {q : Nat} (hq : q < 12) {i : Int32} (hi : (0 : Int32) ≤ i) (h1 : s1 66 q = nn L.length) (h2 : ∀ j, j < L.length → s1 (54 + q) j = nn (L.getD j 0)) (h3 : s2 203 q = wlV L) (h4 : ∀ j, j < L.length → s2 204 (8 * q + j) = nn (L.getD j 0)) : ∃ v, tr_stepOf s1 (nn q) i = rI v s1 ∧ gd (inb (nn q) 12) (if (s2 203 (nn q).toNatClampNeg) ≤ i then rI (-4) s2 else gd (inb ((8 * nn q) + i) 96) (rI (s2 204 (((8 * nn q) + i)).toNatClampNeg) s2)) = rI v s2 := by
  have u0 : (0 : Int32).toInt = 0 := rfl
  have hi0 : 0 ≤ i.toInt := by rw [Int32.le_iff_toInt_le] at hi; omega
  have n0 : ¬ i < 0 := Int32.not_lt.mpr hi
  have i8 : (8 : Int32) * nn q = nn (8 * q) := nn_m 8 q
  rw [tr_stepOf_eq, if_neg n0, nn_b (i := q) (n := 12) hq (by decide), gd_t, gd_t, gd_t, nn_n (by omega), h1, h3, i8]
  by_cases c : nn L.length ≤ i
  · rw [if_pos c]
    have : wlV L ≤ i := by
      unfold wlV
      by_cases y : L.length = 0
      · rw [if_pos y]
        have e4 : (-4 : Int32).toInt = -4 := rfl
        rw [Int32.le_iff_toInt_le]; omega
      · rw [if_neg y]; exact c
    rw [if_pos this]
    exact ⟨_, rfl, rfl⟩
  · obtain ⟨j, ej, -, hj2, ej3⟩ := nn_of (x := i) (b := i.toInt) ⟨hi0, Int.le_refl _⟩
    have hjl : j < L.length := by
      rw [Int32.le_iff_toInt_le, nn_i (by omega)] at c
      omega
    subst ej
    have : ¬ wlV L ≤ nn j := by
      unfold wlV
      rw [if_neg (by omega)]
      exact c
    rw [if_neg c, if_neg this, blt_t hq, gd_t, nn_b (i := j) (n := 7) (by omega) (by decide), gd_t, nn_n (by omega), h2 j hjl, nn_a, nn_b (i := 8 * q + j) (n := 96) (by omega) (by decide), gd_t, nn_n (by omega), h4 j hjl]
    exact ⟨_, rfl, rfl⟩
end LCS
theorem c_led : CS1 J LL_led mo_led := by
  intro t x hJ
  by_cases h1 : wb x 0 2 = 0
  · exact ⟨-1, t, t, by rw [LL_led_eq, LLw, bI_rI, if_pos h1], by rw [mo_led_eq, mw_0_2, bI_rI, if_pos h1], hJ⟩
  obtain ⟨el, h12, -⟩ := nln_ok hJ
  obtain ⟨ed, hd12, -⟩ := ndm_ok hJ
  have em27 := (J_D hJ).1.1
  obtain ⟨-, ⟨pd1, pd2, pd3⟩, -⟩ := id (J_D hJ)
  obtain ⟨s1, s2, a1, a2, K2, -, a3, a4, -, -⟩ := ledC hJ
  obtain ⟨s3, s4, b1, b2, K3, K4, -, b3, b4, -, -⟩ := ledM hJ K2 (-1) (fun l hl => neg1_ne (by omega))
  obtain ⟨c, f1, f2⟩ := loopS (σ := Int32) (fun c q => mo_led_27 s4 x c (nn q)) (ndm t) (fun q c => c = smV t q) (i0 := 0) (s0 := 0) (fun q c hq hI => by
    show ∃ c', mo_led_27 s4 x c (nn q) = mo_led_27 s4 x c' (nn (q + 1)) ∧ _
    refine ⟨c + t 46 q, ?_, by rw [hI]; rfl⟩
    rw [mo_led_27_eq s4 x c (nn q), K_m K4 27 rfl, em27, ed, if_neg (nle hq (by omega)), nn_b (i := q) (n := 12) (by omega) (by decide), gd_t, nn_n (by omega), K_at K4 200 rfl, pd3, nn_s]) (by omega) rfl
  have f1 : mo_led_27 s4 x 0 0 = mo_led_27 s4 x c (nn (ndm t)) := f1
  have e0 : c - lsV t (rlW t (-1)) (ndm t) = gnV t (rlW t (-1)) (ndm t) := by
    rw [f2, ← gone_lost t (rlW t (-1)) (ndm t), Int32.add_sub_cancel]
  refine ⟨if x = 0 then gnV t (rlW t (-1)) (ndm t) else if x = 1 then lsV t (rlW t (-1)) (ndm t) else lbV t (rlW t (-1)) (ndm t), s2, s4, ?_, ?_, K_J K4 hJ⟩
  · rw [LL_led_eq, LLw, bI_rI, if_neg h1, a1, bV_rV, a2, bI_rI, a3, a4]
    split
    · rfl
    · split <;> rfl
  · rw [mo_led_eq, mw_0_2, bI_rI, if_neg h1, b1, bV_rV, b2, bI_rI, f1, mo_led_27_eq, K_m K4 27 rfl, em27, ed, if_pos (yle (Nat.le_refl _) (by omega)), b3, b4, e0]
    split
    · rfl
    · split <;> rfl
theorem c_way : CS2 J LL_way mo_way := by
  intro t x i hJ
  have hD := J_D hJ
  have bD := hD.1.2
  by_cases h1 : wb x 0 (t 43 3 - 1) = 0
  · exact ⟨-1, t, t, by rw [LL_way_eq, hasD hD, bI_rI, if_pos h1], by rw [mo_way_eq, moD hD, bI_rI, if_pos h1], hJ⟩
  obtain ⟨el, h12, -⟩ := nln_ok hJ
  obtain ⟨ed, hd12, -⟩ := ndm_ok hJ
  by_cases h2 : (0 : Int32) ≤ i
  · obtain ⟨q, n1, ex, en1, hq, hn1⟩ := wb_nn bD (by decide) h1
    have f1 : n1 = ndm t := (nn_eq (by omega) (by omega)).mp (en1.symm.trans ed)
    subst ex
    obtain ⟨s1, s2, a1, a2, K2, -, -, -, -, a5⟩ := ledC hJ
    obtain ⟨s3, s4, b1, b2, K3, K4, -, -, -, -, b5⟩ := ledM hJ K2 (-1) (fun l hl => neg1_ne (by omega))
    have J2 := K_J K2 hJ
    obtain ⟨a6, a7⟩ := a5 q (by omega)
    obtain ⟨b6, b7⟩ := b5 q (by omega)
    obtain ⟨v, k1, k2⟩ := stepBoth ldW_len (q := q) (by omega) h2 a6 a7 b6 b7
    have e43 : s2 43 3 = t 43 3 := by rw [K_at K2 43 rfl]
    have n2 : ¬ i < 0 := Int32.not_lt.mpr h2
    refine ⟨v, s2, s4, ?_, ?_, K_J K4 hJ⟩
    · rw [LL_way_eq, hasD hD, bI_rI, if_neg h1]
      simp only [if_pos h2, if_neg n2]
      rw [a1, bV_rV, a2, bI_rI, k1, bI_rI]
    · rw [mo_way_eq, moD (J_D J2), e43, bI_rI, if_neg h1, if_pos h2, b1, bV_rV, b2, bI_rI]
      exact k2
  · have n2 : i < 0 := Int32.not_le.mp h2
    refine ⟨-1, t, t, ?_, by rw [mo_way_eq, moD hD, bI_rI, if_neg h1, if_neg h2], hJ⟩
    rw [LL_way_eq, hasD hD, bI_rI, if_neg h1]
    simp only [if_neg h2, if_pos n2]
theorem c_lineOf : CS2 J LL_lineOf mo_lineOf := by
  intro t x w hJ
  have hN := J_N hJ
  have bl := hN.1.2.1.2
  obtain ⟨el, h12, ei⟩ := nln_ok hJ
  obtain ⟨ed, hd12, -⟩ := ndm_ok hJ
  obtain ⟨-, ⟨p1, p2, p3, p4, p5, p6, p7, p8⟩, -⟩ := id hN
  by_cases h1 : wb x 0 (t 25 5 - 1) = 0
  · exact ⟨-1, t, t, by rw [LL_lineOf_eq, hasN hN, bI_rI, if_pos h1], by rw [mo_lineOf_eq, moN hN, bI_rI, if_pos h1], hJ⟩
  obtain ⟨l, n1, ex, en1, hl, hn1⟩ := wb_nn bl (by decide) h1
  have f1 : n1 = nln t := (nn_eq (by omega) (by omega)).mp (en1.symm.trans el)
  subst ex
  have hb : inb (nn l) 12 = true := nn_b (by omega) (by decide)
  have hnl : (nn l).toNatClampNeg = l := nn_n (by omega)
  by_cases h2 : wb w 0 10 = 0
  · refine ⟨-1, t, t, ?_, by rw [mo_lineOf_eq, moN hN, bI_rI, if_neg h1, mw_0_10, bI_rI, if_pos h2], hJ⟩
    have hne : ∀ k : Int32, wb k 0 10 = 1 → ¬ w = k := fun k hk q => by rw [q, hk] at h2; exact absurd h2 (by decide)
    rw [LL_lineOf_eq, hasN hN, bI_rI, if_neg h1, if_neg (hne 0 rfl), if_neg (hne 1 rfl), if_neg (hne 2 rfl), if_neg (hne 3 rfl), if_neg (hne 4 rfl), if_neg (hne 5 rfl), if_neg (hne 6 rfl), if_neg (hne 7 rfl), if_neg (hne 8 rfl), if_neg (hne 9 rfl), if_neg (hne 10 rfl)]
  have same : (∃ v, LL_lineOf t (nn l) w = rI v t ∧ mo_lineOf t (nn l) w = rI v t) → ∃ v s1 s2, LL_lineOf t (nn l) w = rI v s1 ∧ mo_lineOf s1 (nn l) w = rI v s2 ∧ J s2 := fun ⟨v, k1, k2⟩ => ⟨v, t, t, k1, k2, hJ⟩
  have hi25 : ((l : Nat) : Int) < (t 25 5).toInt := by omega
  have hlen := lenM hN (x := nn l) (by rw [nn_i (by omega)]; omega) (by rw [nn_i (by omega)]; exact hi25)
  rw [hnl] at hlen
  by_cases k0 : w = 0
  · exact same ⟨t 28 l, by rw [LL_lineOf_eq, hasN hN, bI_rI, if_neg h1, if_pos k0, hb, gd_t, hnl], by rw [mo_lineOf_eq, moN hN, bI_rI, if_neg h1, mw_0_10, bI_rI, if_neg h2, if_pos k0, hb, gd_t, hnl, p3]⟩
  by_cases k1 : w = 1
  · exact same ⟨t 29 l, by rw [LL_lineOf_eq, hasN hN, bI_rI, if_neg h1, if_neg k0, if_pos k1, hb, gd_t, hnl], by rw [mo_lineOf_eq, moN hN, bI_rI, if_neg h1, mw_0_10, bI_rI, if_neg h2, if_neg k0, if_pos k1, hb, gd_t, hnl, p4]⟩
  by_cases k2 : w = 2
  · exact same ⟨t 30 l, by rw [LL_lineOf_eq, hasN hN, bI_rI, if_neg h1, if_neg k0, if_neg k1, if_pos k2, hb, gd_t, hnl], by rw [mo_lineOf_eq, moN hN, bI_rI, if_neg h1, mw_0_10, bI_rI, if_neg h2, if_neg k0, if_neg k1, if_pos k2, hb, gd_t, hnl, p5]⟩
  by_cases k3 : w = 3
  · exact same ⟨t 31 l, by rw [LL_lineOf_eq, hasN hN, bI_rI, if_neg h1, if_neg k0, if_neg k1, if_neg k2, if_pos k3, hb, gd_t, hnl], by rw [mo_lineOf_eq, moN hN, bI_rI, if_neg h1, mw_0_10, bI_rI, if_neg h2, if_neg k0, if_neg k1, if_neg k2, if_pos k3, hb, gd_t, hnl, p6]⟩
  by_cases k4 : w = 4
  · exact same ⟨t 32 l, by rw [LL_lineOf_eq, hasN hN, bI_rI, if_neg h1, if_neg k0, if_neg k1, if_neg k2, if_neg k3, if_pos k4, hb, gd_t, hnl], by rw [mo_lineOf_eq, moN hN, bI_rI, if_neg h1, mw_0_10, bI_rI, if_neg h2, if_neg k0, if_neg k1, if_neg k2, if_neg k3, if_pos k4, hb, gd_t, hnl, p7]⟩
  by_cases k5 : w = 5
  · exact same ⟨t 33 l, by rw [LL_lineOf_eq, hasN hN, bI_rI, if_neg h1, if_neg k0, if_neg k1, if_neg k2, if_neg k3, if_neg k4, if_pos k5, hb, gd_t, hnl], by rw [mo_lineOf_eq, moN hN, bI_rI, if_neg h1, mw_0_10, bI_rI, if_neg h2, if_neg k0, if_neg k1, if_neg k2, if_neg k3, if_neg k4, if_pos k5, hb, gd_t, hnl, p8]⟩
  by_cases k6 : w = 6
  · exact same ⟨t 34 l, by rw [LL_lineOf_eq, hasN hN, bI_rI, if_neg h1, if_neg k0, if_neg k1, if_neg k2, if_neg k3, if_neg k4, if_neg k5, if_pos k6, hb, gd_t, hnl], by rw [mo_lineOf_eq, moN hN, bI_rI, if_neg h1, mw_0_10, bI_rI, if_neg h2, if_neg k0, if_neg k1, if_neg k2, if_neg k3, if_neg k4, if_neg k5, if_pos k6, hlen, bI_rI]⟩
  by_cases k7 : w = 7
  · exact same ⟨stV t l, by rw [LL_lineOf_eq, hasN hN, bI_rI, if_neg h1, if_neg k0, if_neg k1, if_neg k2, if_neg k3, if_neg k4, if_neg k5, if_neg k6, if_pos k7, stC hJ (by omega), bI_rI], by rw [mo_lineOf_eq, moN hN, bI_rI, if_neg h1, mw_0_10, bI_rI, if_neg h2, if_neg k0, if_neg k1, if_neg k2, if_neg k3, if_neg k4, if_neg k5, if_neg k6, if_pos k7, stM hJ (by omega), bI_rI]⟩
  by_cases k8 : w = 8
  · have hr := rmC hJ false (l := l) (by omega)
    rw [bi_f] at hr
    exact same ⟨rmV t false l, by rw [LL_lineOf_eq, hasN hN, bI_rI, if_neg h1, if_neg k0, if_neg k1, if_neg k2, if_neg k3, if_neg k4, if_neg k5, if_neg k6, if_neg k7, if_pos k8, hr, bI_rI], by rw [mo_lineOf_eq, moN hN, bI_rI, if_neg h1, mw_0_10, bI_rI, if_neg h2, if_neg k0, if_neg k1, if_neg k2, if_neg k3, if_neg k4, if_neg k5, if_neg k6, if_neg k7, if_pos k8, rmM hJ (by omega), bI_rI]⟩
  obtain ⟨s1, s2, a1, a2, K2, a48, -, -, a49, -⟩ := ledC hJ
  by_cases k9 : w = 9
  · obtain ⟨s3, s4, b1, b2, K3, K4, -, -, -, b202, -⟩ := ledM hJ K2 (-1) (fun l hl => neg1_ne (by omega))
    have J2 := K_J K2 hJ
    have e25 : s2 25 5 = t 25 5 := by rw [K_at K2 25 rfl]
    have hv : rmV t false l - LDr t (rlW t (-1)) (ndm t) l = s4 202 l := by
      rw [← b202 l (by omega)]
      have : rlW t (-1) l = rmV t false l := if_neg (neg1_ne (by omega))
      rw [this]
      exact (Int32.sub_eq_iff_eq_add.mpr (by rw [Int32.add_comm, Int32.sub_add_cancel]))
    refine ⟨s4 202 l, s2, s4, ?_, ?_, K_J K4 hJ⟩
    · rw [LL_lineOf_eq, hasN hN, bI_rI, if_neg h1, if_neg k0, if_neg k1, if_neg k2, if_neg k3, if_neg k4, if_neg k5, if_neg k6, if_neg k7, if_neg k8, if_pos k9, tr_goesBy_eq, a1, bV_rV, a2, bI_rI, hb, gd_t, gd_t, bI_rI, hnl, a48 l (by omega), a49 l (by omega), hv]
    · rw [mo_lineOf_eq, moN (J_N J2), e25, bI_rI, if_neg h1, mw_0_10, bI_rI, if_neg h2, if_neg k0, if_neg k1, if_neg k2, if_neg k3, if_neg k4, if_neg k5, if_neg k6, if_neg k7, if_neg k8, if_pos k9, b1, bV_rV, b2, bI_rI, hb, gd_t, hnl]
  · have k10 : w = 10 := by
      have hw := wb_n h2
      have f0 : (0 : Int32).toInt = 0 := rfl
      have f1 : (1 : Int32).toInt = 1 := rfl
      have f2 : (2 : Int32).toInt = 2 := rfl
      have f3 : (3 : Int32).toInt = 3 := rfl
      have f4 : (4 : Int32).toInt = 4 := rfl
      have f5 : (5 : Int32).toInt = 5 := rfl
      have f6 : (6 : Int32).toInt = 6 := rfl
      have f7 : (7 : Int32).toInt = 7 := rfl
      have f8 : (8 : Int32).toInt = 8 := rfl
      have f9 : (9 : Int32).toInt = 9 := rfl
      have f10 : (10 : Int32).toInt = 10 := rfl
      rw [← Int32.toInt_inj] at k0 k1 k2 k3 k4 k5 k6 k7 k8 k9
      exact Int32.toInt_inj.mp (by omega)
    obtain ⟨s3, c1, c2, -, -, -, -⟩ := leadC hJ K2 (R := rmV t false) a48 (nn l)
    have K3 : K t s3 := K_ch c2 rfl rfl K2
    have J3 := K_J K3 hJ
    have e25 : s3 25 5 = t 25 5 := by rw [K_at K3 25 rfl]
    obtain ⟨s4, s5, b1, b2, K4, K5, b201, -, -, -, -⟩ := ledM hJ K3 (-1) (fun l hl => neg1_ne (by omega))
    have cw : Ch [201] [] s5 (wr s5 201 l 0) := Ch_w rfl rfl Ch_rf
    obtain ⟨s6, d1, d2, -, -, -, -⟩ := leadsM hJ (K_ch cw rfl rfl K5) (rl := rlW t (nn l)) (fun k hk => by
      rw [wr_at]
      show _ = if nn k = nn l then 0 else rmV t false k
      by_cases e : k = l
      · rw [e, upd_at, if_pos rfl]
      · rw [upd_ne e, if_neg (fun q => e ((nn_eq (by omega) (by omega)).mp q))]
        exact b201 k hk)
    have K6 : K t s6 := K_ch d2 rfl rfl (K_ch cw rfl rfl K5)
    have cz : Ch [201] [] s6 (wr s6 201 l (s4 201 l)) := Ch_w rfl rfl Ch_rf
    refine ⟨lsV t (rlW t (nn l)) (ndm t) - lsV t (rlW t (-1)) (ndm t), s3, wr s6 201 l (s4 201 l), ?_, ?_, K_J (K_ch cz rfl rfl K6) hJ⟩
    · rw [LL_lineOf_eq, hasN hN, bI_rI, if_neg h1, if_neg k0, if_neg k1, if_neg k2, if_neg k3, if_neg k4, if_neg k5, if_neg k6, if_neg k7, if_neg k8, if_neg k9, if_pos k10, tr_ahead_eq, a1, bV_rV, a2, bI_rI, c1, bI_rI, bI_rI]
      rfl
    · rw [mo_lineOf_eq, moN (J_N J3), e25, bI_rI, if_neg h1, mw_0_10, bI_rI, if_neg h2, if_neg k0, if_neg k1, if_neg k2, if_neg k3, if_neg k4, if_neg k5, if_neg k6, if_neg k7, if_neg k8, if_neg k9, b1, bV_rV, mo_aheadOf_eq, hb, gd_t, b2, bI_rI, gd_t, hnl, d1, bI_rI, gd_t, bI_rI]
