/-! when loads come back -/
noncomputable def lkB (t : mSt) (j k : Nat) : Bool := !exB (fun l => decide (ldS t (swA t j) l ≠ ldS t (swA t k) l)) (nln t)
section BCK
variable {t s : mSt}
theorem lk_fun (hJ : J t) {j k : Nat} (h : lkB t j k = true) : ldS t (swA t j) = ldS t (swA t k) := by
  funext l
  by_cases hl : l < nln t
  · by_cases e : ldS t (swA t j) l = ldS t (swA t k) l
    · exact e
    · have : exB (fun l => decide (ldS t (swA t j) l ≠ ldS t (swA t k) l)) (nln t) = true := exB_iff.mpr ⟨l, hl, decide_eq_true e⟩
      unfold lkB at h
      rw [this] at h
      cases h
  · rw [ldS_out hJ (by omega), ldS_out hJ (by omega)]
theorem likeC (hJ : J t) (hK : K t s) {j k : Nat} (hj : j < 61) (hk : k < 61) (h1 : ∀ l, l < nln t → s (68 + j) l = nn (ldS t (swA t j) l)) (h2 : ∀ l, l < nln t → s (68 + k) l = nn (ldS t (swA t k) l)) : tr_areLike s (nn j) (nn k) = rI (bi (lkB t j k)) s := by
  obtain ⟨el, h12, -⟩ := nln_ok hJ
  rw [tr_areLike_eq]
  have key := loopE (σ := Unit) (fun _ i => tr_areLike_2 s (nn j) (nn k) (nn i)) (nln t) (fun i _ => ∀ l, l < i → decide (ldS t (swA t j) l ≠ ldS t (swA t k) l) = false) (fun o => o = rI 0 s ∧ lkB t j k = false) (i0 := 0) (s0 := ()) (fun i _ hi hI => by
    show (∃ s', tr_areLike_2 s (nn j) (nn k) (nn i) = tr_areLike_2 s (nn j) (nn k) (nn (i + 1)) ∧ _) ∨ (tr_areLike_2 s (nn j) (nn k) (nn i) = rI 0 s ∧ _)
    have b1 := ldS_le hJ (swA t j) i
    have b2 := ldS_le hJ (swA t k) i
    rw [tr_areLike_2_eq s (nn j) (nn k) (nn i), K_at hK 25 rfl, el, if_neg (nle hi (by omega)), nn_b (i := j) (n := 61) hj (by decide), nn_b (i := k) (n := 61) hk (by decide), nn_b (i := i) (n := 12) (by omega) (by decide), nn_n (by omega), nn_n (by omega), nn_n (by omega), blt_t hj, blt_t hk]
    simp only [gd_t]
    rw [h1 i hi, h2 i hi, nn_s]
    by_cases e : ldS t (swA t j) i = ldS t (swA t k) i
    · rw [if_pos (by rw [e])]
      refine Or.inl ⟨(), rfl, fun l hl => ?_⟩
      by_cases w : l = i
      · rw [w]; exact decide_eq_false (fun z => z e)
      · exact hI l (by omega)
    · rw [if_neg (fun w => e ((nn_eq (by omega) (by omega)).mp w))]
      refine Or.inr ⟨rfl, ?_⟩
      unfold lkB
      rw [exB_iff.mpr ⟨i, hi, decide_eq_true e⟩]
      rfl) (by omega) (fun l hl => by omega)
  rcases key with ⟨-, f1, f2⟩ | ⟨f1, f2⟩
  · have f1 : tr_areLike_2 s (nn j) (nn k) (nn 0) = tr_areLike_2 s (nn j) (nn k) (nn (nln t)) := f1
    refine Eq.trans f1 ?_
    unfold lkB
    rw [tr_areLike_2_eq, K_at hK 25 rfl, el, if_pos (yle (Nat.le_refl _) (by omega)), exB_f f2]
    rfl
  · rw [f2]
    exact f1
theorem alikeM (hJ : J t) (hK : K t s) {j k : Nat} (hj : j < 61) (hk : k < 61) (h1 : ∀ l, l < nln t → s 208 (12 * j + l) = nn (ldS t (swA t j) l)) (h2 : ∀ l, l < nln t → s 208 (12 * k + l) = nn (ldS t (swA t k) l)) : mo_areAlike s (nn j) (nn k) = rI (bi (lkB t j k)) s := by
  obtain ⟨el, h12, -⟩ := nln_ok hJ
  have em3 := (J_N hJ).1.2.1.1
  have ij : (12 : Int32) * nn j = nn (12 * j) := nn_m 12 j
  have ik : (12 : Int32) * nn k = nn (12 * k) := nn_m 12 k
  rw [mo_areAlike_eq]
  obtain ⟨c, f1, f2⟩ := loopS (σ := Bool) (fun c i => mo_areAlike_5 s (nn j) (nn k) (bi c) (nn i)) (nln t) (fun i c => c = !exB (fun l => decide (ldS t (swA t j) l ≠ ldS t (swA t k) l)) i) (i0 := 0) (s0 := true) (fun i c hi hI => by
    show ∃ c', mo_areAlike_5 s (nn j) (nn k) (bi c) (nn i) = mo_areAlike_5 s (nn j) (nn k) (bi c') (nn (i + 1)) ∧ _
    have b1 := ldS_le hJ (swA t j) i
    have b2 := ldS_le hJ (swA t k) i
    refine ⟨c && !decide (ldS t (swA t j) i ≠ ldS t (swA t k) i), ?_, by rw [hI, ← Bool.not_or]; rfl⟩
    rw [mo_areAlike_5_eq s (nn j) (nn k) (bi c) (nn i), K_m hK 3 rfl, em3, el, if_neg (nle hi (by omega)), bi_if, ij, ik, nn_a, nn_a, nn_b (i := 12 * j + i) (n := 732) (by omega) (by decide), nn_b (i := 12 * k + i) (n := 732) (by omega) (by decide), gd_t, gd_t, nn_n (by omega), nn_n (by omega), h1 i hi, h2 i hi, nn_s]
    cases c with
    | false => rw [if_neg (by decide)]; rfl
    | true =>
      rw [if_pos rfl, Bool.true_and]
      by_cases e : ldS t (swA t j) i = ldS t (swA t k) i
      · rw [if_pos (by rw [e]), decide_eq_false (fun z => z e)]; rfl
      · rw [if_neg (fun w => e ((nn_eq (by omega) (by omega)).mp w)), decide_eq_true e]; rfl) (by omega) rfl
  have f1 : mo_areAlike_5 s (nn j) (nn k) 1 0 = mo_areAlike_5 s (nn j) (nn k) (bi c) (nn (nln t)) := f1
  rw [f1, mo_areAlike_5_eq, K_m hK 3 rfl, em3, el, if_pos (yle (Nat.le_refl _) (by omega)), f2]
  show gd (bz (bi (lkB t j k))) (rI (bi (lkB t j k)) s) = _
  cases lkB t j k <;> rfl
/-- the first turn whose loads were there before, and the first such earlier one; or none -/
theorem back_or (t : mSt) : (∃ k j, k < 61 ∧ j < k ∧ lkB t j k = true ∧ (∀ i, i < j → lkB t i k = false) ∧ ∀ k', k' < k → ∀ i, i < k' → lkB t i k' = false) ∨ ∀ k, k < 61 → ∀ i, i < k → lkB t i k = false := by
  rcases first_bad (P := fun k => ∀ i, i < k → lkB t i k = false) 61 with h | ⟨k, k1, k2, k3⟩
  · exact Or.inr h
  · rcases first_bad (P := fun i => lkB t i k = false) k with h | ⟨j, j1, j2, j3⟩
    · exact absurd h k2
    · refine Or.inl ⟨k, j, k1, j1, ?_, j3, k3⟩
      cases e : lkB t j k with
      | true => rfl
      | false => exact absurd e j2
/-- rows of loads that stand -/
def rwC (t : mSt) (n : Nat) (s : mSt) : Prop := ∀ j, j < n → ∀ l, l < nln t → s (68 + j) l = nn (ldS t (swA t j) l)
def rwM (t : mSt) (n : Nat) (s : mSt) : Prop := ∀ j, j < n → ∀ l, l < nln t → s 208 (12 * j + l) = nn (ldS t (swA t j) l)
def sbI (t s : mSt) (k : Nat) (s1 : mSt) : Prop := Ch swL [] s s1 ∧ (s1 47 13 = 61 ∧ s1 47 14 = 1) ∧ rwC t k s1
theorem sub_turn (hJ : J t) (hK : K t s) (h48 : ∀ l, l < nln t → s 48 l = rmV t false l) {k : Nat} (hk : k < 61) {s1 : mSt} (h : sbI t s k s1) : ∃ s2, tr_swingUntilBack_13 s1 (nn k) = tr_swingUntilBack_26 s2 (nn k) (nn 0) ∧ sbI t s (k + 1) s2 := by
  obtain ⟨i1, i2, i3⟩ := h
  have K1 : K t s1 := K_ch i1 rfl rfl hK
  obtain ⟨s2, g1, g2, g3, g4, g5, -⟩ := chooseAllC hJ K1 (fun l hl => by rw [i1.1 48 rfl rfl]; exact h48 l hl) hk (by
    by_cases z : k = 0
    · exact Or.inl z
    · exact Or.inr (i3 (k - 1) (by omega)))
  refine ⟨s2, ?_, Ch_tr i1 g2, by rw [g3]; exact i2, fun j hj l hl => ?_⟩
  · rw [tr_swingUntilBack_13_eq, if_neg (show ¬ (60 : Int32) < nn k from nlt (i := 60) (by omega) (by omega)), g1, bV_rV]
    rfl
  · by_cases e : j = k
    · rw [e]; exact g5 l hl
    · rw [g4 j (by omega) e]; exact i3 j (by omega) l hl
theorem sub_inner (hJ : J t) (hK : K t s) {k : Nat} (hk : k < 61) {s2 : mSt} (h : sbI t s (k + 1) s2) {j0 : Nat} (hj : j0 ≤ k) (hn : ∀ i, i < j0 → lkB t i k = false) : tr_swingUntilBack_26 s2 (nn k) (nn 0) = tr_swingUntilBack_26 s2 (nn k) (nn j0) := by
  obtain ⟨i1, i2, i3⟩ := h
  have K2 : K t s2 := K_ch i1 rfl rfl hK
  obtain ⟨-, f1, -⟩ := loopS (σ := Unit) (fun _ i => tr_swingUntilBack_26 s2 (nn k) (nn i)) j0 (fun _ _ => True) (i0 := 0) (s0 := ()) (fun i _ hi _ => by
    show ∃ s', tr_swingUntilBack_26 s2 (nn k) (nn i) = tr_swingUntilBack_26 s2 (nn k) (nn (i + 1)) ∧ True
    refine ⟨(), ?_, trivial⟩
    rw [tr_swingUntilBack_26_eq s2 (nn k) (nn i), if_neg (nle (by omega) (by omega)), likeC hJ K2 (by omega) hk (i3 i (by omega)) (i3 k (by omega)), hn i hi, bI_rI, if_pos bi_f, nn_s]) (by omega) trivial
  exact f1
theorem untilBackC (hJ : J t) (hK : K t s) (h48 : ∀ l, l < nln t → s 48 l = rmV t false l) : (∀ k j, k < 61 → j < k → lkB t j k = true → (∀ i, i < j → lkB t i k = false) → (∀ k', k' < k → ∀ i, i < k' → lkB t i k' = false) → ∃ s', tr_swingUntilBack s = rI 1 s' ∧ Ch swL [] s s' ∧ s' 47 13 = nn j ∧ s' 47 14 = nn (k - j) ∧ rwC t (k + 1) s') ∧ ((∀ k, k < 61 → ∀ i, i < k → lkB t i k = false) → ∃ s', tr_swingUntilBack s = rI 0 s' ∧ Ch swL [] s s' ∧ s' 47 13 = nn 61 ∧ s' 47 14 = nn 1 ∧ rwC t 61 s') := by
  have c0 : Ch swL [] s (wr (wr s 47 13 61) 47 14 1) := Ch_w rfl rfl (Ch_w rfl rfl Ch_rf)
  have go : ∀ n, n ≤ 61 → (∀ k', k' < n → ∀ i, i < k' → lkB t i k' = false) → ∃ s1, tr_swingUntilBack s = tr_swingUntilBack_13 s1 (nn n) ∧ sbI t s n s1 := fun n hn hno => by
    rw [tr_swingUntilBack_eq]
    obtain ⟨s1, f1, f2⟩ := loopS (σ := mSt) (fun s1 k => tr_swingUntilBack_13 s1 (nn k)) n (fun k s1 => sbI t s k s1) (i0 := 0) (s0 := wr (wr s 47 13 61) 47 14 1) (fun k s1 hk hI => by
      show ∃ s', tr_swingUntilBack_13 s1 (nn k) = tr_swingUntilBack_13 s' (nn (k + 1)) ∧ _
      obtain ⟨s2, g1, g2⟩ := sub_turn hJ hK h48 (by omega) hI
      refine ⟨s2, ?_, g2⟩
      rw [g1, sub_inner hJ hK (by omega) g2 (Nat.le_refl _) (hno k hk), tr_swingUntilBack_26_eq, if_pos (yle (Nat.le_refl _) (by omega)), nn_s]) (by omega) ⟨c0, ⟨rfl, rfl⟩, fun j hj => by omega⟩
    exact ⟨s1, f1, f2⟩
  constructor
  · intro k j hk hj hl hi hno
    obtain ⟨s1, f1, f2⟩ := go k (by omega) hno
    obtain ⟨s2, g1, g2⟩ := sub_turn hJ hK h48 hk f2
    have K2 : K t s2 := K_ch g2.1 rfl rfl hK
    refine ⟨wr (wr s2 47 13 (nn j)) 47 14 (nn (k - j)), ?_, Ch_w rfl rfl (Ch_w rfl rfl g2.1), rfl, rfl, fun i hi' l hl' => ?_⟩
    · rw [f1, g1, sub_inner hJ hK hk g2 (by omega) hi, tr_swingUntilBack_26_eq, if_neg (nle hj (by omega)), likeC hJ K2 (by omega) hk (g2.2.2 j (by omega)) (g2.2.2 k (by omega)), hl, bI_rI, if_neg (show ¬ bi true = 0 by decide), nn_d (by omega)]
    · rw [wr_ne _ _ _ (by omega), wr_ne _ _ _ (by omega)]
      exact g2.2.2 i hi' l hl'
  · intro hno
    obtain ⟨s1, f1, f2⟩ := go 61 (Nat.le_refl _) hno
    refine ⟨s1, ?_, f2.1, f2.2.1.1, f2.2.1.2, f2.2.2⟩
    rw [f1, tr_swingUntilBack_13_eq, if_pos (show (60 : Int32) < nn 61 by decide)]
end BCK
theorem mw_0_60 (s : mSt) (x : Int32) : mo_in s x.toInt64 0 60 = rI (wb x 0 60) s := mowc s x 0 60 rfl rfl
theorem c_swing : CS3 J LL_swing mo_swing := by
  intro t x y i hJ
  have hD := J_D hJ
  have bD := hD.1.2
  obtain ⟨el, h12, -⟩ := nln_ok hJ
  obtain ⟨ed, hd12, -⟩ := ndm_ok hJ
  by_cases h1 : wb x 0 60 = 0
  · exact ⟨-1, t, t, by rw [LL_swing_eq, LLw, bI_rI, if_pos h1], by rw [mo_swing_eq, mw_0_60, bI_rI, if_pos h1], hJ⟩
  by_cases h2 : wb y 0 (t 43 3 - 1) = 0
  · exact ⟨-1, t, t, by rw [LL_swing_eq, LLw, bI_rI, if_neg h1, hasD hD, bI_rI, if_pos h2], by rw [mo_swing_eq, mw_0_60, bI_rI, if_neg h1, moD hD, bI_rI, if_pos h2], hJ⟩
  by_cases h3 : (0 : Int32) ≤ i
  · obtain ⟨q, n1, ex, en1, hq, hn1⟩ := wb_nn bD (by decide) h2
    have f1 : n1 = ndm t := (nn_eq (by omega) (by omega)).mp (en1.symm.trans ed)
    subst ex
    have w1 := wb_n h1
    have u0 : (0 : Int32).toInt = 0 := rfl
    have u60 : (60 : Int32).toInt = 60 := rfl
    obtain ⟨T, eT, hT, -, -⟩ := nn_of (x := x) (b := 60) ⟨by omega, by omega⟩
    subst eT
    have hT61 : T < 61 := by omega
    obtain ⟨s1, a1, a2, a3⟩ := keepC hJ K_rf false
    rw [bi_f] at a1
    have K1 : K t s1 := K_ch a2 rfl rfl K_rf
    -- the turn in which all is chosen alike
    have hb : ∃ v s2 T', tr_swingUntilBack s1 = rI v s2 ∧ Ch swL [] s1 s2 ∧ tr_sameTurn s2 (nn T) = rI (nn T') s2 ∧ T' < 61 ∧ (T' = 0 ∨ ∀ l, l < nln t → s2 (68 + (T' - 1)) l = nn (ldS t (swA t (T' - 1)) l)) ∧ swA t T' = swA t T := by
      rcases back_or t with ⟨k, j, k1, j1, k2, k3, k4⟩ | hno
      · obtain ⟨s2, b1, b2, b3, b4, b5⟩ := (untilBackC hJ K1 a3).1 k j k1 j1 k2 k3 k4
        by_cases c : T ≤ j
        · refine ⟨1, s2, T, b1, b2, ?_, hT61, ?_, rfl⟩
          · rw [tr_sameTurn_eq, b3, if_pos (yle c (by omega))]
          · by_cases z : T = 0
            · exact Or.inl z
            · exact Or.inr (b5 (T - 1) (by omega))
        · have hm : (T - j - 1) % (k - j) < k - j := Nat.mod_lt _ (by omega)
          refine ⟨1, s2, j + 1 + (T - j - 1) % (k - j), b1, b2, ?_, by omega, Or.inr (b5 _ (by omega)), ?_⟩
          · have hn0 : (!(decide (nn (k - j) = (0 : Int32)))) = true := by
              rw [decide_eq_false (fun w => by have := (nn_eq (j := 0) (by omega) (by omega)).mp w; omega)]; rfl
            have e1 : nn T - nn j - 1 = nn (T - j - 1) := by rw [nn_d (by omega), show (1 : Int32) = nn 1 from rfl, nn_d (by omega)]
            have e2 : nn (T - j - 1) / nn (k - j) = nn ((T - j - 1) / (k - j)) := (Int32.ofNat_div (by omega) (by omega)).symm
            rw [tr_sameTurn_eq, b3, b4, if_neg (nle (by omega) (by omega)), if_pos (show (1 : Int32) ≤ nn (k - j) from yle (i := 1) (by omega) (by omega)), hn0, gd_t, e1, e2, nn_m, nn_d (Nat.div_mul_le_self _ _), nn_s, nn_a]
            congr 2
            rw [Nat.mod_def, Nat.mul_comm]
          · have := sw_mod (t := t) (j := j) (r := k - j) (by omega) (by rw [show j + (k - j) = k by omega]; exact lk_fun hJ k2) (T - j - 1)
            rw [show j + 1 + (T - j - 1) = T by omega] at this
            exact this.symm
      · obtain ⟨s2, b1, b2, b3, b4, b5⟩ := (untilBackC hJ K1 a3).2 hno
        refine ⟨0, s2, T, b1, b2, ?_, hT61, ?_, rfl⟩
        · rw [tr_sameTurn_eq, b3, if_pos (yle (by omega) (by omega))]
        · by_cases z : T = 0
          · exact Or.inl z
          · exact Or.inr (b5 (T - 1) (by omega))
    obtain ⟨v, s2, T', b1, b2, b3, b4, b5, b6⟩ := hb
    have K2 : K t s2 := K_ch b2 rfl rfl K1
    obtain ⟨s3, c1, c2, -, -, -, c6⟩ := chooseAllC hJ K2 (fun l hl => by rw [b2.1 48 rfl rfl]; exact a3 l hl) b4 b5
    have K3 : K t s3 := K_ch c2 rfl rfl K2
    have J3 := K_J K3 hJ
    rw [b6] at c6
    obtain ⟨s4, d1, d2, d3⟩ := roomsM hJ K3
    have K4 : K t s4 := K_ch d2 rfl rfl K3
    -- the reference's turns
    obtain ⟨s5, g1, g2, g3, g4, g5⟩ := loopS (σ := mSt) (fun s5 k => mo_swing_33 s5 (nn T) (nn q) i (nn k)) (T + 1) (fun k s5 => Ch mL3 [] s4 s5 ∧ rwM t k s5 ∧ (k = 0 ∨ ∀ q, q < ndm t → s5 203 q = wlV (swW t (swA t (k - 1)) q)) ∧ (k = 0 ∨ ∀ q, q < ndm t → ∀ j, j < (swW t (swA t (k - 1)) q).length → s5 204 (8 * q + j) = nn ((swW t (swA t (k - 1)) q).getD j 0))) (i0 := 0) (s0 := s4) (fun k s5 hk hI => by
      show ∃ s', mo_swing_33 s5 (nn T) (nn q) i (nn k) = mo_swing_33 s' (nn T) (nn q) i (nn (k + 1)) ∧ _
      obtain ⟨i1, i2, -, -⟩ := hI
      have K5 : K t s5 := K_ch i1 rfl rfl K4
      obtain ⟨s6, m1, m2, m3, m4, m5⟩ := swingsOnceM hJ K5 (fun l hl => by rw [i1.1 201 rfl rfl]; exact d3 l hl) (k := k) (by omega) (by
        by_cases z : k = 0
        · exact Or.inl z
        · exact Or.inr (i2 (k - 1) (by omega)))
      refine ⟨s6, ?_, Ch_tr i1 m2, fun j hj l hl => ?_, Or.inr (fun q hq => (m5 q hq).1), Or.inr (fun q hq => (m5 q hq).2)⟩
      · rw [mo_swing_33_eq s5 (nn T) (nn q) i (nn k), if_neg (nlt (by omega) (by omega)), m1, bV_rV, nn_s]
      · by_cases e : j = k
        · rw [e]; exact m4 l hl
        · rw [m3 _ (by omega)]; exact i2 j (by omega) l hl) (by omega) ⟨Ch_rf, fun j hj => by omega, Or.inl rfl, Or.inl rfl⟩
    have g1 : mo_swing_33 s4 (nn T) (nn q) i 0 = mo_swing_33 s5 (nn T) (nn q) i (nn (T + 1)) := g1
    have K5 : K t s5 := K_ch g2 rfl rfl K4
    have g4' : ∀ q, q < ndm t → s5 203 q = wlV (swW t (swA t T) q) := by
      rcases g4 with g4 | g4
      · omega
      · exact g4
    have g5' : ∀ q, q < ndm t → ∀ j, j < (swW t (swA t T) q).length → s5 204 (8 * q + j) = nn ((swW t (swA t T) q).getD j 0) := by
      rcases g5 with g5 | g5
      · omega
      · exact g5
    obtain ⟨w, k1, k2⟩ := stepBoth swW_len (q := q) (by omega) h3 (c6 q (by omega)).1 (c6 q (by omega)).2 (g4' q (by omega)) (g5' q (by omega))
    have e43 : s3 43 3 = t 43 3 := by rw [K_at K3 43 rfl]
    have n3 : ¬ i < 0 := Int32.not_lt.mpr h3
    refine ⟨w, s3, s5, ?_, ?_, K_J K5 hJ⟩
    · rw [LL_swing_eq, LLw, bI_rI, if_neg h1, hasD hD, bI_rI, if_neg h2]
      simp only [if_pos h3, if_neg n3]
      rw [a1, bV_rV, b1, bI_rI, b3, bI_rI, c1, bV_rV, k1, bI_rI]
    · rw [mo_swing_eq, mw_0_60, bI_rI, if_neg h1, moD (J_D J3), e43, bI_rI, if_neg h2, if_pos h3, d1, bV_rV, g1, mo_swing_33_eq, if_pos (ylt (by omega) (by omega))]
      exact k2
  · have n2 : i < 0 := Int32.not_le.mp h3
    refine ⟨-1, t, t, ?_, by rw [mo_swing_eq, mw_0_60, bI_rI, if_neg h1, moD hD, bI_rI, if_neg h2, if_neg h3], hJ⟩
    rw [LL_swing_eq, LLw, bI_rI, if_neg h1, hasD hD, bI_rI, if_neg h2]
    simp only [if_neg h3, if_pos n2]
