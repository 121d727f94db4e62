/-! ORDER's jobs: which, their weights; ships' sums near a state -/
section NER
variable {t s : mSt} {b : Nat}
theorem hr_K (hK : K t s) (b : Nat) : lnB s b = lnB t b ∧ bxV s b = bxV t b ∧ byV s b = byV t b ∧ (∀ x y, hrV s b x y = hrV t b x y) ∧ rlV s b = rlV t b := hr_fr (Fr_sub hK (by decide) (by decide))
theorem HB_K (hJ : J t) (hK : K t s) (hb : b < nbr t) : HB s b := HB_of (K_J hK hJ) (by rw [(K_n hK).2.2.1]; exact hb)
theorem hrCK (hJ : J t) (hK : K t s) (hb : b < nbr t) (x y : Int32) : fl_hoursTo s (nn b) x y = rI (hrV t b x y) s := by
  rw [hrC (HB_K hJ hK hb), (hr_K hK b).2.2.2.1]
theorem hrMK (hJ : J t) (hK : K t s) (hb : b < nbr t) {x y : Int32} (hx : bd x 0 99) (hy : bd y 0 99) : mo_hoursTo s x y (nn b) = rI (hrV t b x y) s := by
  rw [hrM (HB_K hJ hK hb) hx hy, (hr_K hK b).2.2.2.1]
theorem rlCK (hJ : J t) (hK : K t s) (hb : b < nbr t) : fl_reelFor s (nn b) = rI (rlV t b) s := by
  rw [rlC (HB_K hJ hK hb).1, (hr_K hK b).2.2.2.2]
theorem rlMK (hJ : J t) (hK : K t s) (hb : b < nbr t) : mo_takesReel s (nn b) = rI (rlV t b) s := by
  rw [rlM (HB_K hJ hK hb), (hr_K hK b).2.2.2.2]
theorem bxCK (hJ : J t) (hK : K t s) (hb : b < nbr t) : fl_placeX s (nn b) = rI (bxV t b) s := by
  rw [bxC (HB_K hJ hK hb), (hr_K hK b).2.1]
theorem byCK (hJ : J t) (hK : K t s) (hb : b < nbr t) : fl_placeY s (nn b) = rI (byV t b) s := by
  rw [byC (HB_K hJ hK hb), (hr_K hK b).2.2.1]
theorem bxMK (hJ : J t) (hK : K t s) (hb : b < nbr t) : mo_xAt s (s 209 b) (s 212 b) = rI (bxV t b) s := by
  rw [bxM (HB_K hJ hK hb), (hr_K hK b).2.1]
theorem byMK (hJ : J t) (hK : K t s) (hb : b < nbr t) : mo_yAt s (s 209 b) (s 212 b) = rI (byV t b) s := by
  rw [byM (HB_K hJ hK hb), (hr_K hK b).2.2.1]
theorem lv_K (hK : K t s) (j b : Nat) : lvB s j b = lvB t j b := by
  unfold lvB lnB
  rw [K_at hK 133 rfl, K_at hK 30 rfl, K_at hK 36 rfl]
theorem lvCK (hJ : J t) (hK : K t s) (hb : b < nbr t) {j : Nat} (hj : j < 3) : fl_hasLeave s (nn j) (nn b) = rI (bi (lvB t j b)) s := by
  rw [lvC (HB_K hJ hK hb) hj, lv_K hK]
theorem lvMK (hJ : J t) (hK : K t s) (hb : b < nbr t) {j : Nat} (hj : j < nsh t) : mo_mayDo s (nn j) (nn b) = rI (bi (lvB t j b)) s := by
  obtain ⟨-, h3, ei⟩ := nsh_ok hJ
  obtain ⟨-, -, z4, -⟩ := J_Z hJ j (by omega)
  rw [lvM (HB_K hJ hK hb) (by omega) (by rw [K_at hK 219 rfl, K_at hK 133 rfl]; exact (J_F hJ).2.2.2.2.1) (by rw [K_at hK 133 rfl]; exact z4), lv_K hK]
theorem bg_K (hK : K t s) (j : Nat) : bgV s j = bgV t j := by
  unfold bgV
  rw [K_at hK 35 rfl, K_at hK 134 rfl]
theorem bgCK (hK : K t s) {j : Nat} (hj : j < 3) : fl_beginsIn s (nn j) = rI (bgV t j) s := by
  rw [bgC hj, bg_K hK]
theorem bgMK (hJ : J t) (hK : K t s) {j : Nat} (hj : j < 3) : mo_startOf s (nn j) = rI (bgV t j) s := bgM hj (by rw [K_at hK 220 rfl]; exact (J_F hJ).2.2.2.2.2) (by rw [K_m hK 11 rfl]; exact (J_B hJ).1.1)
end NER
def jbB (t : mSt) (b : Nat) : Bool := opB t b && decide (t 42 b = -1)
def jnN (t : mSt) : Nat := ctN (jbB t) (nbr t)
def jrN (t : mSt) : Nat → Nat → Nat
  | 0, _ => 0
  | n + 1, i => if jbB t n = true ∧ i = ctN (jbB t) n then n else jrN t n i
def jI (t : mSt) (i : Nat) : Nat := jrN t (nbr t) i
theorem jr_ok (t : mSt) (n : Nat) : ∀ i, i < ctN (jbB t) n → jrN t n i < n := by
  induction n with
  | zero => intro i hi; exact absurd hi (Nat.not_lt_zero _)
  | succ n ih =>
    intro i hi
    have hi : i < ctN (jbB t) n + (if jbB t n = true then 1 else 0) := hi
    show (if jbB t n = true ∧ i = ctN (jbB t) n then n else jrN t n i) < n + 1
    by_cases c : jbB t n = true ∧ i = ctN (jbB t) n
    · rw [if_pos c]; omega
    · rw [if_neg c]
      have : i < ctN (jbB t) n := by
        by_cases w : jbB t n = true
        · rw [if_pos w] at hi
          have : i ≠ ctN (jbB t) n := fun e => c ⟨w, e⟩
          omega
        · rw [if_neg w] at hi; omega
      have := ih i this
      omega
theorem jI_lt {t : mSt} {i : Nat} (hi : i < jnN t) : jI t i < nbr t := jr_ok t _ i hi
section GAT
variable {t s : mSt}
theorem gatherC (hJ : J t) (hK : K t s) : ∃ s', me_gather s = rI (bi (decide (jnN t ≤ 7))) s' ∧ Ch [135, 136] [] s s' ∧ (jnN t ≤ 7 → s' 135 3 = nn (jnN t) ∧ ∀ i, i < jnN t → s' 136 i = nn (jI t i)) := by
  obtain ⟨en, h8, ei⟩ := nbr_ok hJ
  rw [me_gather_eq]
  have c0 : Ch [135, 136] [] s (wr s 135 3 0) := Ch_w rfl rfl Ch_rf
  have key := loopE (σ := mSt) (fun s1 b => me_gather_7 s1 (nn b)) (nbr t) (fun b s1 => Ch [135, 136] [] s s1 ∧ s1 135 3 = nn (ctN (jbB t) b) ∧ ctN (jbB t) b ≤ 7 ∧ ∀ i, i < ctN (jbB t) b → s1 136 i = nn (jrN t b i)) (fun o => 7 < jnN t ∧ ∃ s', o = rI 0 s' ∧ Ch [135, 136] [] s s') (i0 := 0) (s0 := wr s 135 3 0) (fun b s1 hb hI => by
    show (∃ s', me_gather_7 s1 (nn b) = me_gather_7 s' (nn (b + 1)) ∧ _) ∨ (7 < jnN t ∧ ∃ s', me_gather_7 s1 (nn b) = rI 0 s' ∧ _)
    obtain ⟨i1, i2, i3, i4⟩ := hI
    have hK1 : K t s1 := K_ch i1 rfl rfl hK
    have hb8 : b < 8 := by omega
    have eo : opB s1 b = opB t b := by unfold opB; rw [K_at hK1 35 rfl, K_at hK1 41 rfl]
    have ect : ctN (jbB t) (b + 1) = ctN (jbB t) b + (if jbB t b = true then 1 else 0) := rfl
    have ejr : ∀ i, jrN t (b + 1) i = if jbB t b = true ∧ i = ctN (jbB t) b then b else jrN t b i := fun i => rfl
    rw [me_gather_7_eq s1 (nn b), K_at hK1 35 rfl, en, if_neg (nle hb (by omega)), opC hb8, eo, bI_rI, bi_if, br_isInHands_eq, nn_b hb8 (by decide), gd_t, nn_n (by omega), K_at hK1 42 rfl, nn_s]
    by_cases w : jbB t b = true
    · have w' : opB t b = true ∧ t 42 b = -1 := by
        unfold jbB at w
        rw [Bool.and_eq_true, decide_eq_true_iff] at w
        exact w
      rw [if_pos w'.1, if_pos w'.2, bI_rI, if_pos rfl, i2]
      by_cases c : ctN (jbB t) b < 7
      · rw [if_pos (show nn (ctN (jbB t) b) < 7 from ylt (j := 7) c (by omega)), nn_b c (by decide), gd_t, nn_n (by omega), nn_s]
        refine Or.inl ⟨_, rfl, Ch_w rfl rfl (Ch_w rfl rfl i1), ?_, by rw [ect, if_pos w]; omega, fun i hi => ?_⟩
        · rw [ect, if_pos w]; rfl
        · rw [wr_ne _ _ _ (by omega), wr_at, ejr]
          by_cases e : i = ctN (jbB t) b
          · rw [if_pos ⟨w, e⟩, e, upd_at]
          · rw [if_neg (fun z => e z.2), upd_ne e]
            rw [ect, if_pos w] at hi
            exact i4 i (by omega)
      · rw [if_neg (show ¬ nn (ctN (jbB t) b) < 7 from nlt (j := 7) (by omega) (by omega))]
        refine Or.inr ⟨?_, s1, rfl, i1⟩
        have := (ctN_ge (p := jbB t) (a := b + 1) (z := nbr t) (by omega)).1
        rw [ect, if_pos w] at this
        show 7 < ctN (jbB t) (nbr t)
        omega
    · left
      refine ⟨s1, ?_, i1, by rw [ect, if_neg w]; exact i2, by rw [ect, if_neg w]; exact i3, fun i hi => ?_⟩
      · by_cases o : opB t b = true
        · have : ¬ t 42 b = -1 := fun q => w (by unfold jbB; rw [o, decide_eq_true q]; rfl)
          rw [if_pos o, if_neg this, bI_rI, if_neg (by decide)]
        · rw [if_neg o]
      · rw [ejr, if_neg (fun z => w z.1)]
        rw [ect, if_neg w] at hi
        exact i4 i hi) (by omega) ⟨c0, rfl, Nat.zero_le _, fun i hi => absurd hi (Nat.not_lt_zero _)⟩
  rcases key with ⟨s1, f1, f2, f3, f4, f5⟩ | ⟨f0, s', f1, f2⟩
  · have f1 : me_gather_7 (wr s 135 3 0) (nn 0) = me_gather_7 s1 (nn (nbr t)) := f1
    have K1 : K t s1 := K_ch f2 rfl rfl hK
    refine ⟨s1, ?_, f2, fun _ => ⟨f3, f5⟩⟩
    refine Eq.trans f1 ?_
    rw [me_gather_7_eq, K_at K1 35 rfl, en, if_pos (yle (Nat.le_refl _) (by omega)), decide_eq_true (show jnN t ≤ 7 from f4)]
    rfl
  · refine ⟨s', ?_, f2, fun h => by omega⟩
    rw [decide_eq_false (by omega)]
    exact f1
def rlT (t : mSt) (x : Int32) (l : Nat) : Int32 := if nn l = x then 0 else rmV t true l
noncomputable def wgV (t : mSt) (i : Nat) : Int32 := lsV t (rlT t (nn (lnB t (jI t i)))) (ndm t) - lsV t (rlT t (-1)) (ndm t)
theorem weighC (hJ : J t) (hK : K t s) (h7 : jnN t ≤ 7) (h3 : s 135 3 = nn (jnN t)) (hj : ∀ i, i < jnN t → s 136 i = nn (jI t i)) : ∃ s', me_weigh s = rV s' ∧ Ch (48 :: 137 :: tL) [] s s' ∧ ∀ i, i < jnN t → s' 137 i = wgV t i := by
  obtain ⟨en, h8, ei⟩ := nbr_ok hJ
  obtain ⟨s1, a1, a2, a3⟩ := keepC hJ hK true
  rw [bi_t] at a1
  have K1 : K t s1 := K_ch a2 rfl rfl hK
  obtain ⟨s2, b1, b2, -, -, -, -⟩ := leadC hJ K1 (R := rmV t true) a3 (-1)
  have K2 : K t s2 := K_ch b2 rfl rfl K1
  have c2 : Ch (48 :: 137 :: tL) [] s s2 := Ch_tr (Ch_sub a2 rfl rfl) (Ch_sub b2 rfl rfl)
  have e0 : (fun l => if nn l = (-1 : Int32) then (0 : Int32) else rmV t true l) = rlT t (-1) := rfl
  rw [e0] at b1
  obtain ⟨s3, f1, f2, f3, f4⟩ := loopS (σ := mSt) (fun s3 i => me_weigh_19 s3 (lsV t (rlT t (-1)) (ndm t)) (nn i)) (jnN t) (fun i s3 => Ch (48 :: 137 :: tL) [] s s3 ∧ (∀ l, l < nln t → s3 48 l = rmV t true l) ∧ ∀ k, k < i → s3 137 k = wgV t k) (i0 := 0) (s0 := s2) (fun i s3 hi hI => by
    show ∃ s', me_weigh_19 s3 _ (nn i) = me_weigh_19 s' _ (nn (i + 1)) ∧ _
    obtain ⟨i1, i2, i3⟩ := hI
    have K3 : K t s3 := K_ch i1 rfl rfl hK
    have hji := jI_lt hi
    obtain ⟨l1, l2, l3⟩ := lnB_ok hJ hji
    obtain ⟨s4, g1, g2, -, -, -, -⟩ := leadC hJ K3 (R := rmV t true) i2 (nn (lnB t (jI t i)))
    have e1 : (fun l => if nn l = nn (lnB t (jI t i)) then (0 : Int32) else rmV t true l) = rlT t (nn (lnB t (jI t i))) := rfl
    rw [e1] at g1
    have h135 : s3 135 = s 135 := i1.1 135 rfl rfl
    have h136 : s3 136 i = nn (jI t i) := by rw [i1.1 136 rfl rfl]; exact hj i hi
    refine ⟨wr s4 137 i (wgV t i), ?_, Ch_w rfl rfl (Ch_tr i1 (Ch_sub g2 rfl rfl)), fun l hl => by rw [wr_ne _ _ _ (by omega), g2.1 48 rfl rfl]; exact i2 l hl, fun k hk => ?_⟩
    · rw [me_weigh_19_eq s3 _ (nn i), h135, h3, if_neg (nle hi (by omega)), nn_b (i := i) (n := 7) (by omega) (by decide), gd_t, nn_n (by omega), h136, nn_b (i := jI t i) (n := 8) (by omega) (by decide), gd_t, nn_n (by omega), K_at K3 36 rfl, l1, g1, bI_rI, gd_t, nn_s]
      rfl
    · rw [wr_at]
      by_cases e : k = i
      · rw [e, upd_at]
      · rw [upd_ne e, g2.1 137 rfl rfl]; exact i3 k (by omega)) (by omega) ⟨c2, fun l hl => by rw [b2.1 48 rfl rfl]; exact a3 l hl, fun k hk => by omega⟩
  have f1 : me_weigh_19 s2 (lsV t (rlT t (-1)) (ndm t)) 0 = me_weigh_19 s3 (lsV t (rlT t (-1)) (ndm t)) (nn (jnN t)) := f1
  refine ⟨s3, ?_, f2, f4⟩
  rw [me_weigh_eq, a1, bV_rV, b1, bI_rI, f1, me_weigh_19_eq, f2.1 135 rfl rfl, h3, if_pos (yle (Nat.le_refl _) (by omega))]
def mL5 : List Nat := [201, 202, 203, 204, 205, 206, 221, 222]
theorem aheadM (hJ : J t) (hK : K t s) (h201 : ∀ l, l < nln t → s 201 l = rmV t true l) {l : Nat} (hl : l < nln t) : ∃ s', mo_aheadOf s (nn l) = rI (lsV t (rlT t (nn l)) (ndm t) - lsV t (rlT t (-1)) (ndm t)) s' ∧ Ch (201 :: mL2) [35, 36] s s' ∧ ∀ k, k < nln t → s' 201 k = rmV t true k := by
  obtain ⟨el, h12, -⟩ := nln_ok hJ
  obtain ⟨s1, b1, b2, -, -, -, -⟩ := leadsM hJ hK (rl := rlT t (-1)) (fun k hk => by rw [h201 k hk]; exact (if_neg (neg1_ne (by omega))).symm)
  have K1 : K t s1 := K_ch b2 rfl rfl hK
  have cw : Ch [201] [] s1 (wr s1 201 l 0) := Ch_w rfl rfl Ch_rf
  obtain ⟨s2, d1, d2, -, -, -, -⟩ := leadsM hJ (K_ch cw rfl rfl K1) (rl := rlT t (nn l)) (fun k hk => by
    rw [wr_at]
    show _ = if nn k = nn l then 0 else rmV t true k
    by_cases e : k = l
    · rw [e, upd_at, if_pos rfl]
    · rw [upd_ne e, if_neg (fun q => e ((nn_eq (by omega) (by omega)).mp q)), b2.1 201 rfl rfl]
      exact h201 k hk)
  refine ⟨wr s2 201 l (s 201 l), ?_, Ch_w rfl rfl (Ch_tr (Ch_tr (Ch_sub b2 rfl rfl) (Ch_sub cw rfl rfl)) (Ch_sub d2 rfl rfl)), fun k hk => ?_⟩
  · rw [mo_aheadOf_eq, nn_b (i := l) (n := 12) (by omega) (by decide), gd_t, b1, bI_rI, gd_t, nn_n (by omega), d1, bI_rI, gd_t]
  · rw [wr_at]
    by_cases e : k = l
    · rw [e, upd_at]; exact h201 l hl
    · rw [upd_ne e, d2.1 201 rfl rfl, wr_at, upd_ne e, b2.1 201 rfl rfl]
      exact h201 k hk
theorem listedM (hJ : J t) (hK : K t s) : ∃ s', mo_findListed s = rV s' ∧ Ch mL5 [35, 36, 56] s s' ∧ s' 183 56 = nn (jnN t) ∧ (∀ i, i < jnN t → s' 221 i = nn (jI t i)) ∧ ∀ i, i < jnN t → s' 222 i = wgV t i := by
  obtain ⟨en, h8, ei⟩ := nbr_ok hJ
  obtain ⟨el, h12, ej⟩ := nln_ok hJ
  have eb := (J_B hJ).2.1
  have em3 := (J_N hJ).1.2.1.1
  obtain ⟨-, -, ey, by1⟩ := id (J_N hJ).1
  obtain ⟨-, ⟨-, -, -, -, -, p6, -⟩, -⟩ := id (J_N hJ)
  have er2 := (J_R hJ).2.1
  have hjn8 : jnN t ≤ 8 := Nat.le_trans (ctN_le _ _) h8
  rw [mo_findListed_eq]
  obtain ⟨s1, f1, f2, f3, f4⟩ := loopS (σ := mSt) (fun s1 b => mo_findListed_7 s1 (nn b)) (nbr t) (fun b s1 => Ch mL5 [35, 36, 56] s s1 ∧ s1 183 56 = nn (ctN (jbB t) b) ∧ ∀ i, i < ctN (jbB t) b → s1 221 i = nn (jrN t b i)) (i0 := 0) (s0 := wr s 183 56 0) (fun b s1 hb hI => by
    show ∃ s', mo_findListed_7 s1 (nn b) = mo_findListed_7 s' (nn (b + 1)) ∧ _
    obtain ⟨i1, i2, i4⟩ := hI
    have hK1 : K t s1 := K_ch i1 rfl rfl hK
    have hJ1 := K_J hK1 hJ
    have hb8 : b < 8 := by omega
    have eo : opB s1 b = opB t b := by unfold opB; rw [K_at hK1 35 rfl, K_at hK1 41 rfl]
    have hle := ctN_le (jbB t) b
    have ect : ctN (jbB t) (b + 1) = ctN (jbB t) b + (if jbB t b = true then 1 else 0) := rfl
    have ejr : ∀ i, jrN t (b + 1) i = if jbB t b = true ∧ i = ctN (jbB t) b then b else jrN t b i := fun i => rfl
    have h42 : t 215 b = -4 ↔ t 42 b = -1 := by
      obtain ⟨-, -, c6⟩ := (J_Y hJ).2 b (by omega)
      rcases c6 with ⟨d1, d2, d3, d4⟩ | ⟨d1, d2, d3, d4, d5⟩
      · exact ⟨fun _ => d3, fun _ => d4⟩
      · constructor
        · intro q; rw [d4] at q; rw [q] at d5; have h := d5.1; exact absurd h (by decide)
        · intro q; rw [q] at d5; have h := d5.1; exact absurd h (by decide)
    rw [mo_findListed_7_eq s1 (nn b), K_m hK1 41 rfl, eb, en, if_neg (nle hb (by omega)), opM hJ1 (by rw [K_at hK1 35 rfl]; omega), eo, bI_rI, bi_if, nn_b hb8 (by decide), gd_t, nn_n (by omega), K_at hK1 215 rfl, i2, nn_b (i := ctN (jbB t) b) (n := 8) (by omega) (by decide), gd_t, nn_n (by omega), nn_s, nn_s]
    by_cases w : jbB t b = true
    · have w' : opB t b = true ∧ t 42 b = -1 := by
        unfold jbB at w
        rw [Bool.and_eq_true, decide_eq_true_iff] at w
        exact w
      rw [if_pos w'.1, if_pos (h42.mpr w'.2)]
      refine ⟨_, rfl, Ch_m rfl (Ch_w rfl rfl i1), ?_, fun i hi => ?_⟩
      · rw [ect, if_pos w]; rfl
      · rw [wr_ne _ _ _ (by omega), wr_at, ejr]
        by_cases e : i = ctN (jbB t) b
        · rw [if_pos ⟨w, e⟩, e, upd_at]
        · rw [if_neg (fun z => e z.2), upd_ne e]
          rw [ect, if_pos w] at hi
          exact i4 i (by omega)
    · refine ⟨s1, ?_, i1, by rw [ect, if_neg w]; exact i2, fun i hi => ?_⟩
      · by_cases o : opB t b = true
        · have : ¬ t 42 b = -1 := fun q => w (by unfold jbB; rw [o, decide_eq_true q]; rfl)
          rw [if_pos o, if_neg (fun q => this (h42.mp q))]
        · rw [if_neg o]
      · rw [ejr, if_neg (fun z => w z.1)]
        rw [ect, if_neg w] at hi
        exact i4 i hi) (by omega) ⟨Ch_m rfl Ch_rf, rfl, fun i hi => absurd hi (Nat.not_lt_zero _)⟩
  have f1 : mo_findListed_7 (wr s 183 56 0) (nn 0) = mo_findListed_7 s1 (nn (nbr t)) := f1
  have K1 : K t s1 := K_ch f2 rfl rfl hK
  -- rooms, all whole
  obtain ⟨s2, g1, g2, g3⟩ := loopS (σ := mSt) (fun s2 l => mo_findListed_62 s2 (nn l)) (nln t) (fun l s2 => Ch [201] [] s1 s2 ∧ ∀ k, k < l → s2 201 k = rmV t true k) (i0 := 0) (s0 := s1) (fun l s2 hl hI => by
    show ∃ s', mo_findListed_62 s2 (nn l) = mo_findListed_62 s' (nn (l + 1)) ∧ _
    obtain ⟨i1, i2⟩ := hI
    have hK2 : K t s2 := K_ch i1 rfl rfl K1
    have hJ2 := K_J hK2 hJ
    have elt : ltV s2 l (s2 25 1) = ltV t l (t 25 1) := by
      unfold ltV
      rw [K_at hK2 2 rfl, K_at hK2 34 rfl, K_at hK2 32 rfl, K_at hK2 33 rfl, K_at hK2 25 rfl]
    refine ⟨wr s2 201 l (rmV t true l), ?_, Ch_w rfl rfl i1, fun k hk => ?_⟩
    · have e10 : s2 183 10 = s2 25 1 := by rw [K_m hK2 10 rfl, K_at hK2 25 rfl]; exact ey
      rw [mo_findListed_62_eq s2 (nn l), K_m hK2 3 rfl, em3, el, if_neg (nle hl (by omega)), e10, ltM hJ2 (by rw [(K_n hK2).1]; exact hl) ⟨by rw [K_at hK2 25 rfl]; exact by1.1, by rw [K_at hK2 25 rfl]; have := by1.2; omega⟩, bI_rI, elt, nn_b (i := l) (n := 12) (by omega) (by decide), gd_t, gd_t, gd_t, nn_n (by omega), K_at hK2 192 rfl, er2, K_at hK2 189 rfl, p6, nn_s]
      unfold rmV brB
      rw [Bool.true_or, Bool.and_true]
      by_cases w : t 2 1 ≤ ltV t l (t 25 1)
      · rw [if_pos w, if_pos (decide_eq_true w)]
      · rw [if_neg w, if_neg (fun q => w (of_decide_eq_true q))]
    · rw [wr_at]
      by_cases e : k = l
      · rw [e, upd_at]
      · rw [upd_ne e]; exact i2 k (by omega)) (by omega) ⟨Ch_rf, fun k hk => by omega⟩
  have g1 : mo_findListed_62 s1 0 = mo_findListed_62 s2 (nn (nln t)) := g1
  have c2 : Ch mL5 [35, 36, 56] s s2 := Ch_tr f2 (Ch_sub g2 rfl rfl)
  have K2 : K t s2 := K_ch c2 rfl rfl hK
  -- weights
  obtain ⟨s3, k1, k2, k3, k4, k5, k6⟩ := loopS (σ := mSt) (fun s3 i => mo_findListed_119 s3 (nn i)) (jnN t) (fun i s3 => Ch mL5 [35, 36, 56] s s3 ∧ s3 183 56 = nn (jnN t) ∧ s3 221 = s2 221 ∧ (∀ l, l < nln t → s3 201 l = rmV t true l) ∧ ∀ k, k < i → s3 222 k = wgV t k) (i0 := 0) (s0 := s2) (fun i s3 hi hI => by
    show ∃ s', mo_findListed_119 s3 (nn i) = mo_findListed_119 s' (nn (i + 1)) ∧ _
    obtain ⟨i1, i2, i3, i4, i5⟩ := hI
    have K3 : K t s3 := K_ch i1 rfl rfl hK
    have hji := jI_lt hi
    obtain ⟨l1, l2, l3⟩ := lnB_ok hJ hji
    obtain ⟨s4, m1, m2, m3⟩ := aheadM hJ K3 i4 l2
    have h221 : s3 221 i = nn (jI t i) := by rw [i3, Ch1 g2 (by omega)]; exact f4 i hi
    have h209 : s3 209 (jI t i) = nn (lnB t (jI t i)) := by rw [K_at K3 209 rfl, (J_Y hJ).1.1]; exact l1
    refine ⟨wr s4 222 i (wgV t i), ?_, Ch_w rfl rfl (Ch_tr i1 (Ch_sub m2 rfl rfl)), by rw [wr_ne _ _ _ (by omega), m2.2 56 rfl]; exact i2, by rw [wr_ne _ _ _ (by omega), m2.1 221 rfl rfl]; exact i3, fun l hl => by rw [wr_ne _ _ _ (by omega)]; exact m3 l hl, fun k hk => ?_⟩
    · rw [mo_findListed_119_eq s3 (nn i), i2, if_neg (nle hi (by omega)), nn_b (i := i) (n := 8) (by omega) (by decide), gd_t, nn_n (by omega), h221, nn_b (i := jI t i) (n := 8) (by omega) (by decide), gd_t, nn_n (by omega), h209, m1, bI_rI, gd_t, nn_s]
      rfl
    · rw [wr_at]
      by_cases e : k = i
      · rw [e, upd_at]
      · rw [upd_ne e, m2.1 222 rfl rfl]; exact i5 k (by omega)) (by omega) ⟨c2, by rw [g2.2 56 rfl]; exact f3, rfl, g3, fun k hk => by omega⟩
  have k1 : mo_findListed_119 s2 0 = mo_findListed_119 s3 (nn (jnN t)) := k1
  refine ⟨s3, ?_, k2, k3, fun i hi => by rw [k4, Ch1 g2 (by omega)]; exact f4 i hi, k6⟩
  refine Eq.trans f1 ?_
  rw [mo_findListed_7_eq, K_m K1 41 rfl, eb, en, if_pos (yle (Nat.le_refl _) (by omega)), g1, mo_findListed_62_eq, K_m K2 3 rfl, em3, el, if_pos (yle (Nat.le_refl _) (by omega)), k1, mo_findListed_119_eq, k3, if_pos (yle (Nat.le_refl _) (by omega))]
end GAT
