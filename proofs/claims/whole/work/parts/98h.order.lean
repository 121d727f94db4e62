/-! ORDER -/
theorem jr_inj (t : mSt) (n : Nat) : ∀ i j, i < ctN (jbB t) n → j < ctN (jbB t) n → jrN t n i = jrN t n j → i = j := by
  induction n with
  | zero => intro i j hi; exact absurd hi (Nat.not_lt_zero _)
  | succ n ih =>
    intro i j hi hj h
    have ec : ctN (jbB t) (n + 1) = ctN (jbB t) n + (if jbB t n = true then 1 else 0) := rfl
    have h : (if jbB t n = true ∧ i = ctN (jbB t) n then n else jrN t n i) = (if jbB t n = true ∧ j = ctN (jbB t) n then n else jrN t n j) := h
    rw [ec] at hi hj
    have lo : ∀ k, k < ctN (jbB t) n + (if jbB t n = true then 1 else 0) → ¬ (jbB t n = true ∧ k = ctN (jbB t) n) → k < ctN (jbB t) n := fun k hk c => by
      by_cases w : jbB t n = true
      · rw [if_pos w] at hk
        have : k ≠ ctN (jbB t) n := fun e => c ⟨w, e⟩
        omega
      · rw [if_neg w] at hk; omega
    by_cases ci : jbB t n = true ∧ i = ctN (jbB t) n
    · by_cases cj : jbB t n = true ∧ j = ctN (jbB t) n
      · omega
      · rw [if_pos ci, if_neg cj] at h
        have := jr_ok t n j (lo j hj cj)
        omega
    · by_cases cj : jbB t n = true ∧ j = ctN (jbB t) n
      · rw [if_neg ci, if_pos cj] at h
        have := jr_ok t n i (lo i hi ci)
        omega
      · rw [if_neg ci, if_neg cj] at h
        exact ih i j (lo i hi ci) (lo j hj cj) h
def obV (t : mSt) : Nat → Int32
  | 0 => 0
  | k + 1 => obV t k ||| (1 <<< (nn (jI t k) &&& 31))
section ORD
variable {t s s0 : mSt} {U : Nat → Nat → Int32}
theorem findOrderM (hJ : J t) (h7 : jnN t ≤ 7) (hw : jmP t s) (hU : ∀ j D, j < nsh t → D < 2 ^ jnN t → coP t j D (U j D)) : ∃ s', mo_findOrder_6 s 0 = rI (bi (bsO U t (nsh t ^ jnN t)).isSome) s' ∧ Ch [223, 224, 225] [60] s s' ∧ ∀ b, bsO U t (nsh t ^ jnN t) = some b → s' 183 60 = ptV U t b (nsh t) ∧ ∀ k, k < jnN t → s' 225 k = nn (dgN (nsh t) (jnN t) b k) := by
  obtain ⟨en, h3, -⟩ := nsh_ok hJ
  have emm := (J_F hJ).1.1
  have hN := pow_2187 h3 h7
  obtain ⟨s1, a1, a2, a3⟩ := tabM hJ h7 hw
  have hK1 : K t s1 := K_ch a2 rfl rfl hw.1
  have w1 : s1 183 56 = nn (jnN t) := by rw [a2.2 56 rfl]; exact hw.2.1
  have g49 : ∀ s2, K t s2 → s2 183 49 = nn (nsh t) := fun s2 h => by rw [K_m h 49 rfl, emm, en]
  -- how many there are
  obtain ⟨c0, b1, b2⟩ := loopS (σ := Int32) (fun x k => mo_findOrder_60 s1 x (nn k)) (jnN t) (fun k x => x = nn (nsh t ^ k)) (i0 := 0) (s0 := 1) (fun k x hk hI => by
    show ∃ x', mo_findOrder_60 s1 x (nn k) = mo_findOrder_60 s1 x' (nn (k + 1)) ∧ _
    refine ⟨x * nn (nsh t), ?_, by rw [hI, nn_m, Nat.pow_succ]⟩
    rw [mo_findOrder_60_eq s1 x (nn k), w1, if_neg (nle hk (by omega)), g49 s1 hK1, nn_s]) (Nat.zero_le _) rfl
  have b1 : mo_findOrder_60 s1 1 0 = mo_findOrder_60 s1 c0 (nn (jnN t)) := b1
  obtain ⟨⟨s2, x2⟩, e1, e2, e3, e4⟩ := loopS (σ := mSt × Int32) (fun r c => mo_findOrder_85 r.1 (nn (nsh t ^ jnN t)) r.2 (nn c)) (nsh t ^ jnN t) (fun c r => Ch [225] [60] s1 r.1 ∧ r.2 = bi (bsO U t c).isSome ∧ ∀ b, bsO U t c = some b → r.1 183 60 = ptV U t b (nsh t) ∧ ∀ k, k < jnN t → r.1 225 k = nn (dgN (nsh t) (jnN t) b k)) (i0 := 0) (s0 := (s1, 0)) (fun c r hc hI => by
    obtain ⟨s2, x2⟩ := r
    show ∃ r' : mSt × Int32, mo_findOrder_85 s2 (nn (nsh t ^ jnN t)) x2 (nn c) = mo_findOrder_85 r'.1 (nn (nsh t ^ jnN t)) r'.2 (nn (c + 1)) ∧ _
    obtain ⟨i1, i2, i3⟩ := hI
    have i1 : Ch [225] [60] s1 s2 := i1
    have i2 : x2 = bi (bsO U t c).isSome := i2
    have i3 : ∀ b, bsO U t c = some b → s2 183 60 = ptV U t b (nsh t) ∧ ∀ k, k < jnN t → s2 225 k = nn (dgN (nsh t) (jnN t) b k) := i3
    have hK2 : K t s2 := K_ch i1 rfl rfl hK1
    have v1 : s2 183 56 = nn (jnN t) := by rw [i1.2 56 rfl]; exact w1
    have hT : ∀ j D, j < nsh t → D < 2 ^ jnN t → moP t j D (s2 223 (128 * j + D)) := fun j D hj hD => by rw [i1.1 223 rfl rfl]; exact a3 j D hj hD
    have hm : 0 < jnN t → 0 < nsh t := fun hn => by
      rcases Nat.eq_zero_or_pos (nsh t) with z | z
      · rw [z, Nat.zero_pow hn] at hc; omega
      · exact z
    have eC : mo_findOrder_110 s2 (nn (nsh t ^ jnN t)) x2 (nn c) (nn c) 0 0 0 (nn (jnN t) - 1) = mo_findOrder_110 s2 (nn (nsh t ^ jnN t)) x2 (nn c) (nn (c / nsh t ^ jnN t)) (nn (mkV t c 0)) (nn (mkV t c 1)) (nn (mkV t c 2)) (-1) := by
      have e9 : ∀ j, j < 3 → mkF (fun k => if jnN t ≤ k then dgN (nsh t) (jnN t) c k else 9) j (jnN t) = 0 := fun j hj => by
        apply Nat.eq_of_testBit_eq
        intro q
        rw [mk_bit, Nat.zero_testBit]
        by_cases l : q < jnN t
        · rw [if_neg (by omega), decide_eq_false (show ¬ 9 = j by omega), Bool.and_false]
        · rw [decide_eq_false l, Bool.false_and]
      rcases Nat.eq_zero_or_pos (jnN t) with z | z
      · have ml : ∀ j, mkV t c j = 0 := fun j => by have := mkV_lt t c j; rw [z] at this; omega
        rw [ml, ml, ml, z, Nat.pow_zero, Nat.div_one]
        rfl
      · have := codeM hJ h7 hK2 (hm z) (c := c) (by omega) (nn (nsh t ^ jnN t)) x2 (nn c) (jnN t) (Nat.le_refl _)
        rw [e9 0 (by omega), e9 1 (by omega), e9 2 (by omega), Nat.sub_self, Nat.pow_zero, Nat.div_one] at this
        exact this
    rw [mo_findOrder_85_eq s2 _ x2 (nn c), if_neg (nle hc (by omega)), v1, eC, pricesM hJ h7 hK2, fitM h3 hU hT, mo_findOrder_294_eq, nn_s, bi_if]
    have eN : bsO U t (c + 1) = match bsO U t c with | none => if okB t c = true then some c else none | some b => if okB t c = true ∧ ptV U t c (nsh t) < ptV U t b (nsh t) then some c else some b := rfl
    have stay : bsO U t (c + 1) = bsO U t c → ∃ r' : mSt × Int32, mo_findOrder_85 s2 (nn (nsh t ^ jnN t)) x2 (nn (c + 1)) = mo_findOrder_85 r'.1 (nn (nsh t ^ jnN t)) r'.2 (nn (c + 1)) ∧ Ch [225] [60] s1 r'.1 ∧ r'.2 = bi (bsO U t (c + 1)).isSome ∧ ∀ b, bsO U t (c + 1) = some b → r'.1 183 60 = ptV U t b (nsh t) ∧ ∀ k, k < jnN t → r'.1 225 k = nn (dgN (nsh t) (jnN t) b k) := fun e => ⟨(s2, x2), rfl, i1, by rw [e]; exact i2, fun b hb => i3 b (by rw [← e]; exact hb)⟩
    have go : okB t c = true → bsO U t (c + 1) = some c → ∃ r' : mSt × Int32, mo_findOrder_320 s2 (nn (nsh t ^ jnN t)) (nn c) (nn (mkV t c 0)) (nn (mkV t c 1)) (aV t s2 c 0) (aV t s2 c 1) (aV t s2 c 2) = mo_findOrder_85 r'.1 (nn (nsh t ^ jnN t)) r'.2 (nn (c + 1)) ∧ Ch [225] [60] s1 r'.1 ∧ r'.2 = bi (bsO U t (c + 1)).isSome ∧ ∀ b, bsO U t (c + 1) = some b → r'.1 183 60 = ptV U t b (nsh t) ∧ ∀ k, k < jnN t → r'.1 225 k = nn (dgN (nsh t) (jnN t) b k) := fun hok e => by
      obtain ⟨s3, f1, f2, f3⟩ := shipsM (s := wr s2 183 60 (ptV U t c (nsh t))) (c := c) h7 h3 hm (by rw [wr_at, upd_ne (by decide)]; exact v1) (nn (nsh t ^ jnN t)) 1 (nn c)
      refine ⟨(s3, 1), ?_, Ch_tr (Ch_m rfl i1) (Ch_sub f2 rfl rfl), by rw [e]; rfl, fun b hb => ?_⟩
      · rw [mo_findOrder_320_eq, sumM h3 hU hT hok, f1, nn_s]
      · rw [e] at hb
        cases hb
        refine ⟨?_, f3⟩
        show s3 183 60 = _
        rw [f2.2 60 rfl, wr_at, upd_at]
    by_cases hok : okB t c = true
    · rw [if_pos hok]
      cases q : bsO U t c with
      | none =>
        rw [q] at eN i2
        dsimp only at eN
        rw [if_pos hok] at eN
        rw [if_pos (show x2 = 0 from i2)]
        exact go hok eN
      | some b =>
        have hb := (i3 b q).1
        rw [q] at eN i2
        dsimp only at eN
        rw [if_neg (show ¬ x2 = 0 by rw [i2]; exact (show ¬ bi true = 0 by decide)), sumM h3 hU hT hok, hb]
        by_cases l : ptV U t c (nsh t) < ptV U t b (nsh t)
        · rw [if_pos ⟨hok, l⟩] at eN
          rw [if_neg (Int32.not_le.mpr l)]
          exact go hok eN
        · rw [if_neg (fun z => l z.2), ← q] at eN
          rw [if_pos (Int32.not_lt.mp l)]
          exact stay eN
    · rw [if_neg hok]
      exact stay (by
        rw [eN]
        cases bsO U t c with
        | none => dsimp only; rw [if_neg hok]
        | some b => dsimp only; rw [if_neg (fun z => hok z.1)])) (Nat.zero_le _) ⟨Ch_rf, rfl, fun b hb => by cases hb⟩
  have e1 : mo_findOrder_85 s1 (nn (nsh t ^ jnN t)) 0 0 = mo_findOrder_85 s2 (nn (nsh t ^ jnN t)) x2 (nn (nsh t ^ jnN t)) := e1
  have e2 : Ch [225] [60] s1 s2 := e2
  have e3 : x2 = bi (bsO U t (nsh t ^ jnN t)).isSome := e3
  refine ⟨s2, ?_, Ch_tr (Ch_sub a2 rfl rfl) (Ch_sub e2 rfl rfl), e4⟩
  have hbz : ∀ b : Bool, bz (bi b) = true := by decide
  rw [a1, b1, mo_findOrder_60_eq, w1, if_pos (yle (Nat.le_refl _) (by omega)), b2, e1, mo_findOrder_85_eq, if_pos (yle (Nat.le_refl _) (by omega)), e3, hbz, gd_t]
theorem bitsOC (h7 : jnN t ≤ 7) (w1 : s 135 3 = nn (jnN t)) (w2 : ∀ i, i < jnN t → s 136 i = nn (jI t i)) : me_jobBits s = rI (obV t (jnN t)) s := by
  obtain ⟨c, e1, e2⟩ := loopS (σ := Int32) (fun c k => me_jobBits_4 s c (nn k)) (jnN t) (fun k c => c = obV t k) (i0 := 0) (s0 := 0) (fun k c hk hI => by
    show ∃ c', me_jobBits_4 s c (nn k) = me_jobBits_4 s c' (nn (k + 1)) ∧ _
    refine ⟨c ||| (1 <<< (nn (jI t k) &&& 31)), ?_, by rw [hI]; rfl⟩
    rw [me_jobBits_4_eq s c (nn k), w1, if_neg (nle hk (by omega)), nn_b (i := k) (n := 7) (by omega) (by decide), gd_t, nn_n (by omega), w2 k hk, nn_s]) (Nat.zero_le _) rfl
  have e1 : me_jobBits_4 s 0 0 = me_jobBits_4 s c (nn (jnN t)) := e1
  rw [me_jobBits_eq, e1, me_jobBits_4_eq, w1, if_pos (yle (Nat.le_refl _) (by omega)), e2]
theorem bitsOM (h7 : jnN t ≤ 7) (w1 : s 183 56 = nn (jnN t)) (w2 : ∀ i, i < jnN t → s 221 i = nn (jI t i)) (x : Int32) : mo_order_49 s x 0 0 = mo_order_49 s x (obV t (jnN t)) (nn (jnN t)) := by
  obtain ⟨c, e1, e2⟩ := loopS (σ := Int32) (fun c k => mo_order_49 s x c (nn k)) (jnN t) (fun k c => c = obV t k) (i0 := 0) (s0 := 0) (fun k c hk hI => by
    show ∃ c', mo_order_49 s x c (nn k) = mo_order_49 s x c' (nn (k + 1)) ∧ _
    refine ⟨c ||| (1 <<< (nn (jI t k) &&& 31)), ?_, by rw [hI]; rfl⟩
    rw [mo_order_49_eq s x c (nn k), w1, if_neg (nle hk (by omega)), nn_b (i := k) (n := 8) (by omega) (by decide), gd_t, nn_n (by omega), w2 k hk, nn_s]) (Nat.zero_le _) rfl
  have e1 : mo_order_49 s x 0 0 = mo_order_49 s x c (nn (jnN t)) := e1
  rw [e1, e2]
/-- whose is a job -/
theorem shipOf (h7 : jnN t ≤ 7) (x y : Int32) (hy : x - 10 = y) {b : Nat} (hc1 : s 135 3 = nn (jnN t)) (hc2 : ∀ i, i < jnN t → s 136 i = nn (jI t i)) (hc3 : ∀ k, k < jnN t → s 161 k = nn (dgN (nsh t) (jnN t) b k)) (hm1 : s0 183 56 = nn (jnN t)) (hm2 : ∀ i, i < jnN t → s0 221 i = nn (jI t i)) (hm3 : ∀ k, k < jnN t → s0 225 k = nn (dgN (nsh t) (jnN t) b k)) (h8 : nbr t ≤ 8) : ∃ v, me_bestShipOf s y = rI v s ∧ mo_order_106 s0 x (-4) 0 = rI v s0 := by
  have walkC : ∀ m, m ≤ jnN t → (∀ i, i < m → nn (jI t i) ≠ y) → me_bestShipOf s y = me_bestShipOf_2 s y (nn m) := fun m hm hno => by
    obtain ⟨u, e1, -⟩ := loopS (σ := Unit) (fun _ k => me_bestShipOf_2 s y (nn k)) m (fun _ _ => True) (i0 := 0) (s0 := ()) (fun k _ hk _ => by
      refine ⟨(), ?_, trivial⟩
      show me_bestShipOf_2 s y (nn k) = me_bestShipOf_2 s y (nn (k + 1))
      rw [me_bestShipOf_2_eq s y (nn k), hc1, if_neg (nle (by omega) (by omega)), nn_b (i := k) (n := 7) (by omega) (by decide), gd_t, gd_t, nn_n (by omega), hc2 k (by omega), if_neg (hno k hk), nn_s]) (Nat.zero_le _) trivial
    rw [me_bestShipOf_eq]
    exact e1
  have walkM : ∀ (w : Nat → Int32), w 0 = -4 → (∀ k, k < jnN t → w (k + 1) = if nn (jI t k) = y then nn (dgN (nsh t) (jnN t) b k) else w k) → mo_order_106 s0 x (-4) 0 = rI (w (jnN t)) s0 := fun w hw0 hw => by
    obtain ⟨c, e1, e2⟩ := loopS (σ := Int32) (fun c k => mo_order_106 s0 x c (nn k)) (jnN t) (fun k c => c = w k) (i0 := 0) (s0 := -4) (fun k c hk hI => by
      show ∃ c', mo_order_106 s0 x c (nn k) = mo_order_106 s0 x c' (nn (k + 1)) ∧ _
      refine ⟨w (k + 1), ?_, rfl⟩
      rw [mo_order_106_eq s0 x c (nn k), hm1, if_neg (nle hk (by omega)), nn_b (i := k) (n := 8) (by omega) (by decide), gd_t, gd_t, nn_n (by omega), hm2 k hk, hy, hm3 k hk, nn_s, hw k hk, hI]
      split <;> rfl) (Nat.zero_le _) hw0.symm
    have e1 : mo_order_106 s0 x (-4) 0 = mo_order_106 s0 x c (nn (jnN t)) := e1
    rw [e1, mo_order_106_eq, hm1, if_pos (yle (Nat.le_refl _) (by omega)), e2]
  rcases first_bad (P := fun i => nn (jI t i) ≠ y) (jnN t) with q | ⟨i, i1, i2, i3⟩
  · refine ⟨-4, ?_, ?_⟩
    · rw [walkC _ (Nat.le_refl _) q, me_bestShipOf_2_eq, hc1, if_pos (yle (Nat.le_refl _) (by omega))]
    · exact walkM (fun _ => -4) rfl (fun k hk => by rw [if_neg (q k hk)])
  · have hy' : nn (jI t i) = y := Decidable.not_not.mp i2
    refine ⟨nn (dgN (nsh t) (jnN t) b i), ?_, ?_⟩
    · rw [walkC i (by omega) i3, me_bestShipOf_2_eq, hc1, if_neg (nle i1 (by omega)), nn_b (i := i) (n := 7) (by omega) (by decide), gd_t, gd_t, nn_n (by omega), hc2 i i1, if_pos hy', hc3 i i1]
    · have := walkM (fun k => if i < k then nn (dgN (nsh t) (jnN t) b i) else -4) (if_neg (Nat.not_lt_zero _)) (fun k hk => by
        by_cases e : k = i
        · rw [e, if_pos (Nat.lt_succ_self i), if_pos hy']
        · have hne : ¬ nn (jI t k) = y := fun z => by
            rw [← hy'] at z
            have b1 := jI_lt hk
            have b2 := jI_lt i1
            have z' : jI t k = jI t i := (nn_eq (by omega) (by omega)).mp z
            exact e (jr_inj t (nbr t) k i hk i1 z')
          rw [if_neg hne]
          by_cases l : i < k
          · rw [if_pos l, if_pos (by omega)]
          · rw [if_neg l, if_neg (by omega)])
      rw [if_pos i1] at this
      exact this
theorem order27 (hJ : J t) (x : Int32) : ∃ v s1 s2, LL_order_27 t x (x - 10) = rI v s1 ∧ mo_order_29 s1 x = rI v s2 ∧ J s2 ∧ K t s1 := by
  obtain ⟨s1, a1, a2, a3⟩ := gatherC hJ K_rf
  have K1 : K t s1 := K_ch a2 rfl rfl K_rf
  have h8 : jnN t ≤ 8 := Nat.le_trans (ctN_le _ _) (nbr_ok hJ).2.1
  by_cases h7 : jnN t ≤ 7
  · rw [decide_eq_true h7] at a1
    obtain ⟨b1, b2⟩ := a3 h7
    by_cases x1 : x = 1
    · obtain ⟨s4, e1, e2, e3, e4, e5⟩ := listedM hJ K1
      have K4 : K t s4 := K_ch e2 rfl rfl K1
      refine ⟨obV t (jnN t), s1, s4, ?_, ?_, K_J K4 hJ, K1⟩
      · rw [LL_order_27_eq, a1, bI_rI, if_neg (show ¬ bi true = 0 by decide), if_pos x1, bitsOC h7 b1 b2, bI_rI]
      · rw [mo_order_29_eq, e1, bV_rV, e3, if_pos (show nn (jnN t) ≤ 7 from yle (j := 7) h7 (by omega)), bitsOM h7 e3 e4, mo_order_49_eq, e3, if_pos (yle (Nat.le_refl _) (by omega)), if_pos x1]
    · obtain ⟨s2, c1, c2, c3⟩ := weighC hJ K1 h7 b1 b2
      have K2 : K t s2 := K_ch c2 rfl rfl K1
      have hw2 : jwP t s2 := ⟨K2, by rw [c2.1 135 rfl rfl]; exact b1, fun i hi => by rw [c2.1 136 rfl rfl]; exact b2 i hi, c3⟩
      obtain ⟨s3, d1, d2, d3⟩ := measureAllC hJ h7 hw2
      have hw3 := jw_ch hw2 d2
      obtain ⟨s4, f1, f2, f3, f4⟩ := findBestC hJ h7 hw3.1 hw3.2.1 d3
      have K4 : K t s4 := K_ch f2 rfl rfl hw3.1
      obtain ⟨s5, e1, e2, e3, e4, e5⟩ := listedM hJ K4
      have K5 : K t s5 := K_ch e2 rfl rfl K4
      obtain ⟨s6, g1, g2, g3, g4, g5⟩ := listedM hJ K5
      have K6 : K t s6 := K_ch g2 rfl rfl K5
      obtain ⟨s7, l1, l2, l3⟩ := findOrderM hJ h7 ⟨K6, g3, g4, g5⟩ d3
      have K7 : K t s7 := K_ch l2 rfl rfl K6
      have eM : mo_order_29 s4 x = (if bi (bsO (fun j D => s3 (156 + j) D) t (nsh t ^ jnN t)).isSome = 0 then rI (-4) s7 else if x = 0 then rI (s7 183 60) s7 else mo_order_106 s7 x (-4) 0) := by
        rw [mo_order_29_eq, e1, bV_rV, e3, if_pos (show nn (jnN t) ≤ 7 from yle (j := 7) h7 (by omega)), bitsOM h7 e3 e4, mo_order_49_eq, e3, if_pos (yle (Nat.le_refl _) (by omega)), if_neg x1, mo_findOrder_eq, g1, bV_rV, l1, bI_rI]
      have eC : LL_order_27 t x (x - 10) = (if bi (bsO (fun j D => s3 (156 + j) D) t (nsh t ^ jnN t)).isSome = 0 then rI (-4) s4 else if x = 0 then rI (s4 135 13) s4 else bI (me_bestShipOf s4 (x - 10)) fun v5 s5 => rI v5 s5) := by
        rw [LL_order_27_eq, a1, bI_rI, if_neg (show ¬ bi true = 0 by decide), if_neg x1, c1, bV_rV, d1, bV_rV, f1, bI_rI]
      cases q : bsO (fun j D => s3 (156 + j) D) t (nsh t ^ jnN t) with
      | none =>
        rw [q] at eM eC
        exact ⟨-4, s4, s7, eC, eM, K_J K7 hJ, K4⟩
      | some b =>
        rw [q] at eM eC
        obtain ⟨p1, p2⟩ := f4 b q
        obtain ⟨r1, r2⟩ := l3 b q
        have eC : LL_order_27 t x (x - 10) = if x = 0 then rI (s4 135 13) s4 else bI (me_bestShipOf s4 (x - 10)) fun v5 s5 => rI v5 s5 := eC
        have eM : mo_order_29 s4 x = if x = 0 then rI (s7 183 60) s7 else mo_order_106 s7 x (-4) 0 := eM
        by_cases x0 : x = 0
        · rw [if_pos x0, p1] at eC
          rw [if_pos x0, r1] at eM
          exact ⟨_, s4, s7, eC, eM, K_J K7 hJ, K4⟩
        · rw [if_neg x0] at eC eM
          obtain ⟨v, y1, y2⟩ := shipOf (t := t) (s := s4) (s0 := s7) (b := b) h7 x (x - 10) rfl f3 (fun i hi => by rw [f2.1 136 rfl rfl]; exact hw3.2.2.1 i hi) p2 (by rw [l2.2 56 rfl]; exact g3) (fun i hi => by rw [l2.1 221 rfl rfl]; exact g4 i hi) r2 (nbr_ok hJ).2.1
          rw [y1, bI_rI] at eC
          rw [y2] at eM
          exact ⟨v, s4, s7, eC, eM, K_J K7 hJ, K4⟩
  · rw [decide_eq_false h7] at a1
    obtain ⟨s4, e1, e2, e3⟩ := listedM hJ K1
    have K4 : K t s4 := K_ch e2 rfl rfl K1
    refine ⟨-2, s1, s4, ?_, ?_, K_J K4 hJ, K1⟩
    · rw [LL_order_27_eq, a1, bI_rI, if_pos bi_f]
    · rw [mo_order_29_eq, e1, bV_rV, e3.1, if_neg (show ¬ nn (jnN t) ≤ 7 from nle (j := 7) (by omega) (by omega))]
end ORD
theorem c_order : CS1 J LL_order mo_order := by
  intro t x hJ
  obtain ⟨v, s1, s2, h1, h2, h3, hK⟩ := order27 hJ x
  obtain ⟨eb, hb8, ebi⟩ := nbr_ok hJ
  by_cases x0 : x = 0
  · refine ⟨v, s1, s2, ?_, ?_, h3⟩
    · rw [LL_order_eq, if_pos x0, h1]
    · rw [mo_order_eq, mw_0_1, bI_rI, if_neg (by rw [x0]; decide), h2]
  · by_cases x1 : x = 1
    · refine ⟨v, s1, s2, ?_, ?_, h3⟩
      · rw [LL_order_eq, if_neg x0, if_pos x1, h1]
      · rw [mo_order_eq, mw_0_1, bI_rI, if_neg (by rw [x1]; decide), h2]
    · have hw0 : wb x 0 1 = 0 := by
        rcases wb_01 (x := x) (a := 0) (b := 1) with z | z
        · exact z
        · exfalso
          have hz := wb_n (x := x) (a := 0) (b := 1) (by rw [z]; decide)
          have u0 : (0 : Int32).toInt = 0 := rfl
          have u1 : (1 : Int32).toInt = 1 := rfl
          have : x.toInt = 0 ∨ x.toInt = 1 := by omega
          rcases this with k | k
          · exact x0 (Int32.toInt_inj.mp (by rw [k]; rfl))
          · exact x1 (Int32.toInt_inj.mp (by rw [k]; rfl))
      by_cases hb : wb (x - 10) 0 (t 35 2 - 1) = 0
      · refine ⟨-1, t, t, ?_, ?_, hJ⟩
        · rw [LL_order_eq, if_neg x0, if_neg x1, hasB (J_B hJ), bI_rI, if_pos hb]
        · rw [mo_order_eq, mw_0_1, bI_rI, if_pos hw0, moB (J_B hJ), bI_rI, if_pos hb]
          split <;> rfl
      · obtain ⟨i, j, i1, i2, i3, i4⟩ := wb_nn (m := 8) ⟨by omega, by omega⟩ (by decide) hb
        have hx : x = nn (i + 10) := by
          have : x = x - 10 + 10 := (Int32.sub_add_cancel x 10).symm
          rw [this, i1]
          exact nn_a i 10
        have hl : ¬ x < 10 := by rw [hx]; exact nlt (j := 10) (by omega) (by omega)
        refine ⟨v, s1, s2, ?_, ?_, h3⟩
        · rw [LL_order_eq, if_neg x0, if_neg x1, hasB (J_B hJ), bI_rI, if_neg hb, h1]
        · rw [mo_order_eq, mw_0_1, bI_rI, if_pos hw0, if_neg hl, moB (J_B (K_J hK hJ)), bI_rI, K_at hK 35 rfl, if_neg hb, h2]
