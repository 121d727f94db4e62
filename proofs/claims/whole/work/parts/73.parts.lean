/-! PARTS on the machine; the cases parts, worst -/
theorem nn_dec {n : Nat} (h : 1 ≤ n) : nn n + (-1) = nn (n - 1) := by
  rw [← nn_d h, show nn 1 = 1 from rfl, Int32.sub_eq_add_neg]
def frN (t : mSt) (k : Nat) : Nat := (t 28 k).toNatClampNeg
def toN (t : mSt) (k : Nat) : Nat := (t 29 k).toNatClampNeg
theorem ft_ok {t : mSt} (hJ : J t) {k : Nat} (hk : k < nln t) : inb (t 28 k) 8 = true ∧ inb (t 29 k) 8 = true ∧ frN t k < nld t ∧ toN t k < nld t ∧ t 28 k = nn (frN t k) ∧ t 29 k = nn (toN t k) ∧ frN t k ≠ toN t k := by
  obtain ⟨-, -, ei⟩ := nln_ok hJ
  obtain ⟨-, -, ej⟩ := nld_ok hJ
  have hk' : (k : Int) < (t 25 5).toInt := by omega
  obtain ⟨-, k2, k3⟩ := ends_b (J_N hJ) hk'
  obtain ⟨⟨l1, l2, l3⟩, -⟩ := (J_N hJ).2.2.2 k hk'
  have a1 := l1.1
  have a2 := l1.2
  have a3 := l2.1
  have a4 := l2.2
  refine ⟨k2, k3, ?_, ?_, nn_x a1, nn_x a3, fun q => l3 ?_⟩
  · show (t 28 k).toInt.toNat < nld t; omega
  · show (t 29 k).toInt.toNat < nld t; omega
  · have : (t 28 k).toInt.toNat = (t 29 k).toInt.toNat := q
    exact Int32.toInt_inj.mp (by omega)
def hpQ (t : mSt) (l m : Nat) (r : Int32) (k : Nat) : Bool := decide (k < nln t) && (decide (k ≠ l) && (decide (k ≠ m) && !decide (rmV t false k < r)))
def hpN (t : mSt) (l m : Nat) (r : Int32) : Nat := cnC (hpQ t l m r) (frN t) (toN t) (nld t) (nln t)
section HPS
variable {t s : mSt}
theorem joinC (hJ : J t) (hK : K t s) (x y : Int32) : ∃ s', tr_joinHeaps s x y = rV s' ∧ Ch [52] [] s s' ∧ ∀ i, i < nld t → s' 52 i = if s 52 i = y then x else s 52 i := by
  obtain ⟨en, h8, -⟩ := nld_ok hJ
  rw [tr_joinHeaps_eq]
  obtain ⟨s', e1, e2, e3, e4⟩ := loopS (σ := mSt) (fun s1 i => tr_joinHeaps_2 s1 x y (nn i)) (nld t) (fun i s1 => Ch [52] [] s s1 ∧ (∀ j, j < i → s1 52 j = if s 52 j = y then x else s 52 j) ∧ ∀ j, i ≤ j → s1 52 j = s 52 j) (i0 := 0) (s0 := s) (fun i s1 hi hI => by
    show ∃ s', tr_joinHeaps_2 s1 x y (nn i) = tr_joinHeaps_2 s' x y (nn (i + 1)) ∧ _
    obtain ⟨c1, c2, c3⟩ := hI
    have hK1 : K t s1 := K_ch c1 rfl rfl hK
    have e25 : s1 25 2 = nn (nld t) := by rw [K_at hK1 25 rfl]; exact en
    rw [tr_joinHeaps_2_eq s1 x y (nn i), e25, if_neg (nle hi (by omega)), nn_b (i := i) (n := 8) (by omega) (by decide), gd_t, gd_t, nn_n (by omega), nn_s, c3 i (Nat.le_refl _)]
    by_cases c : s 52 i = y
    · rw [if_pos c]
      refine ⟨_, rfl, Ch_w rfl rfl c1, fun j hj => ?_, fun j hj => ?_⟩
      · rw [wr_at]
        by_cases e : j = i
        · rw [e, upd_at, if_pos c]
        · rw [upd_ne e]; exact c2 j (by omega)
      · rw [wr_at, upd_ne (by omega)]; exact c3 j (by omega)
    · rw [if_neg c]
      refine ⟨s1, rfl, c1, fun j hj => ?_, fun j hj => c3 j (by omega)⟩
      by_cases e : j = i
      · rw [e, c3 i (Nat.le_refl _), if_neg c]
      · exact c2 j (by omega)) (by omega) ⟨Ch_rf, fun j hj => by omega, fun j _ => rfl⟩
  have e1 : tr_joinHeaps_2 s x y (nn 0) = tr_joinHeaps_2 s' x y (nn (nld t)) := e1
  refine ⟨s', e1.trans ?_, e2, e3⟩
  have hK1 : K t s' := K_ch e2 rfl rfl hK
  rw [tr_joinHeaps_2_eq, K_at hK1 25 rfl, en, if_pos (yle (Nat.le_refl _) (by omega))]
theorem hwC (hJ : J t) (hK : K t s) (hR : ∀ k, k < nln t → s 48 k = rmV t false k) {l m : Nat} (hl : l < 100) (hm : m < 100) (r : Int32) : ∃ s', tr_heapsWithout s (nn l) (nn m) r = rI (nn (hpN t l m r)) s' ∧ Ch [52] [] s s' := by
  obtain ⟨en, h8, -⟩ := nld_ok hJ
  obtain ⟨el, h12, -⟩ := nln_ok hJ
  have hf : ∀ k, hpQ t l m r k = true → frN t k < nld t := fun k h => by
    unfold hpQ at h
    rw [Bool.and_eq_true, decide_eq_true_iff] at h
    exact (ft_ok hJ h.1).2.2.1
  have ht : ∀ k, hpQ t l m r k = true → toN t k < nld t := fun k h => by
    unfold hpQ at h
    rw [Bool.and_eq_true, decide_eq_true_iff] at h
    exact (ft_ok hJ h.1).2.2.2.1
  rw [tr_heapsWithout_eq]
  obtain ⟨s1, e1, e2, e3⟩ := loopS (σ := mSt) (fun s1 i => tr_heapsWithout_3 s1 (nn l) (nn m) r (nn i)) (nld t) (fun i s1 => Ch [52] [] s s1 ∧ ∀ j, j < i → s1 52 j = nn j) (i0 := 0) (s0 := s) (fun i s1 hi hI => by
    show ∃ s', tr_heapsWithout_3 s1 (nn l) (nn m) r (nn i) = tr_heapsWithout_3 s' (nn l) (nn m) r (nn (i + 1)) ∧ _
    obtain ⟨c1, c2⟩ := hI
    have hK1 : K t s1 := K_ch c1 rfl rfl hK
    refine ⟨wr s1 52 i (nn i), ?_, Ch_w rfl rfl c1, fun j hj => ?_⟩
    · rw [tr_heapsWithout_3_eq s1 (nn l) (nn m) r (nn i), K_at hK1 25 rfl, en, if_neg (nle hi (by omega)), nn_b (i := i) (n := 8) (by omega) (by decide), gd_t, nn_n (by omega), nn_s]
    · rw [wr_at]
      by_cases e : j = i
      · rw [e, upd_at]
      · rw [upd_ne e]; exact c2 j (by omega)) (by omega) ⟨Ch_rf, fun j hj => by omega⟩
  have e1 : tr_heapsWithout_3 s (nn l) (nn m) r (nn 0) = tr_heapsWithout_3 s1 (nn l) (nn m) r (nn (nld t)) := e1
  have hK1 : K t s1 := K_ch e2 rfl rfl hK
  have f1 : tr_heapsWithout_3 s (nn l) (nn m) r (nn 0) = tr_heapsWithout_42 s1 (nn l) (nn m) r (nn (nld t)) (nn 0) := by
    rw [e1, tr_heapsWithout_3_eq, K_at hK1 25 rfl, en, if_pos (yle (Nat.le_refl _) (by omega))]
    rfl
  obtain ⟨⟨s2, c⟩, g1, g2, g3, g4⟩ := loopS (σ := mSt × Int32) (fun p k => tr_heapsWithout_42 p.1 (nn l) (nn m) r p.2 (nn k)) (nln t) (fun k p => Ch [52] [] s p.1 ∧ (∀ j, j < nld t → p.1 52 j = nn (lbC (hpQ t l m r) (frN t) (toN t) k j)) ∧ p.2 = nn (cnC (hpQ t l m r) (frN t) (toN t) (nld t) k)) (i0 := 0) (s0 := (s1, nn (nld t))) (fun k p hk hI => by
    obtain ⟨s2, c⟩ := p
    show ∃ p' : mSt × Int32, tr_heapsWithout_42 s2 (nn l) (nn m) r c (nn k) = tr_heapsWithout_42 p'.1 (nn l) (nn m) r p'.2 (nn (k + 1)) ∧ _
    obtain ⟨c1, c2, c3⟩ := hI
    have c1 : Ch [52] [] s s2 := c1
    have c2 : ∀ j, j < nld t → s2 52 j = nn (lbC (hpQ t l m r) (frN t) (toN t) k j) := c2
    have c3 : c = nn (cnC (hpQ t l m r) (frN t) (toN t) (nld t) k) := c3
    have hK2 : K t s2 := K_ch c1 rfl rfl hK
    have r48 : s2 48 k = rmV t false k := by rw [c1.1 48 rfl rfl]; exact hR k hk
    obtain ⟨q1, q2, q3, q4, q5, q6, -⟩ := ft_ok hJ hk
    have st : tr_heapsWithout_42 s2 (nn l) (nn m) r c (nn k) = tr_heapsWithout_82 s2 (nn l) (nn m) r c (nn k) (bi (hpQ t l m r k)) := by
      rw [tr_heapsWithout_42_eq, K_at hK2 25 rfl, el, if_neg (nle hk (by omega)), nn_b (i := k) (n := 12) (by omega) (by decide), gd_t, nn_n (by omega), r48]
      unfold hpQ
      rw [decide_eq_true hk, Bool.true_and]
      by_cases a1 : k = l
      · rw [if_pos (by rw [a1]), decide_eq_false (fun w => w a1)]; rfl
      · rw [if_neg (fun w => a1 ((nn_eq (by omega) (by omega)).mp w)), decide_eq_true a1, Bool.true_and]
        by_cases a2 : k = m
        · rw [if_pos (by rw [a2]), decide_eq_false (fun w => w a2)]; rfl
        · rw [if_neg (fun w => a2 ((nn_eq (by omega) (by omega)).mp w)), decide_eq_true a2, Bool.true_and]
          by_cases a3 : rmV t false k < r
          · rw [if_pos a3, decide_eq_true a3]; rfl
          · rw [if_neg a3, decide_eq_false a3]; rfl
    have lbs : ∀ j, lbC (hpQ t l m r) (frN t) (toN t) (k + 1) j = if hpQ t l m r k = true ∧ lbC (hpQ t l m r) (frN t) (toN t) k j = lbC (hpQ t l m r) (frN t) (toN t) k (toN t k) then lbC (hpQ t l m r) (frN t) (toN t) k (frN t k) else lbC (hpQ t l m r) (frN t) (toN t) k j := fun _ => rfl
    have cns : cnC (hpQ t l m r) (frN t) (toN t) (nld t) (k + 1) = if hpQ t l m r k = true ∧ ¬ lbC (hpQ t l m r) (frN t) (toN t) k (frN t k) = lbC (hpQ t l m r) (frN t) (toN t) k (toN t k) then cnC (hpQ t l m r) (frN t) (toN t) (nld t) k - 1 else cnC (hpQ t l m r) (frN t) (toN t) (nld t) k := rfl
    have hlt : ∀ j, j < nld t → lbC (hpQ t l m r) (frN t) (toN t) k j < nld t := lb_lt hf k
    rw [st, tr_heapsWithout_82_eq, bi_if, nn_s]
    by_cases a : hpQ t l m r k = true
    · have b28 : s2 28 k = t 28 k := by rw [K_at hK2 28 rfl]
      have b29 : s2 29 k = t 29 k := by rw [K_at hK2 29 rfl]
      have bf := c2 _ q3
      have bt := c2 _ q4
      rw [if_pos a, nn_b (i := k) (n := 12) (by omega) (by decide), nn_n (by omega), b28, b29, q1, q2]
      simp only [gd_t]
      rw [show s2 52 (t 28 k).toNatClampNeg = _ from bf, show s2 52 (t 29 k).toNatClampNeg = _ from bt]
      have hF := hlt _ q3
      have hT := hlt _ q4
      by_cases b : lbC (hpQ t l m r) (frN t) (toN t) k (frN t k) = lbC (hpQ t l m r) (frN t) (toN t) k (toN t k)
      · rw [if_pos (by rw [b])]
        refine ⟨(s2, c), rfl, c1, fun j hj => ?_, ?_⟩
        · show s2 52 j = _
          rw [c2 j hj, lbs]
          split
          · next w => rw [w.2, b]
          · rfl
        · show c = _
          rw [c3, cns, if_neg (fun w => w.2 b)]
      · rw [if_neg (fun w => b ((nn_eq (by omega) (by omega)).mp w))]
        obtain ⟨s3, j1, j2, j3⟩ := joinC hJ hK2 (nn (lbC (hpQ t l m r) (frN t) (toN t) k (frN t k))) (nn (lbC (hpQ t l m r) (frN t) (toN t) k (toN t k)))
        rw [j1, bV_rV]
        refine ⟨(s3, c + (-1)), rfl, Ch_tr c1 j2, fun j hj => ?_, ?_⟩
        · show s3 52 j = _
          rw [j3 j hj, c2 j hj, lbs]
          have := hlt j hj
          by_cases w : lbC (hpQ t l m r) (frN t) (toN t) k j = lbC (hpQ t l m r) (frN t) (toN t) k (toN t k)
          · rw [if_pos (by rw [w]), if_pos ⟨a, w⟩]
          · rw [if_neg (fun v => w ((nn_eq (by omega) (by omega)).mp v)), if_neg (fun v => w v.2)]
        · show c + (-1) = _
          have p1 := cn_pos hf ht (show 1 ≤ nld t by omega) k
          rw [c3, cns, if_pos ⟨a, b⟩, nn_dec p1]
    · rw [if_neg a]
      refine ⟨(s2, c), rfl, c1, fun j hj => ?_, ?_⟩
      · show s2 52 j = _
        rw [c2 j hj, lbs, if_neg (fun w => a w.1)]
      · show c = _
        rw [c3, cns, if_neg (fun w => a w.1)]) (by omega) ⟨e2, e3, rfl⟩
  have g1 : tr_heapsWithout_42 s1 (nn l) (nn m) r (nn (nld t)) (nn 0) = tr_heapsWithout_42 s2 (nn l) (nn m) r c (nn (nln t)) := g1
  have g2 : Ch [52] [] s s2 := g2
  have g4 : c = _ := g4
  have hK2 : K t s2 := K_ch g2 rfl rfl hK
  refine ⟨s2, ?_, g2⟩
  refine (f1.trans g1).trans ?_
  rw [tr_heapsWithout_42_eq, K_at hK2 25 rfl, el, if_pos (yle (Nat.le_refl _) (by omega)), g4]
  rfl
theorem hwM (hJ : J t) (hK : K t s) (hR : ∀ k, k < nln t → s 201 k = rmV t false k) {l m : Nat} (hl : l < 100) (hm : m < 100) (r : Int32) : ∃ s', mo_partsBy s (nn l) (nn m) r = rI (nn (hpN t l m r)) s' ∧ Ch [207] [] s s' := by
  obtain ⟨en, h8, -⟩ := nld_ok hJ
  obtain ⟨el, h12, -⟩ := nln_ok hJ
  have em := (J_N hJ).1.1.1
  have em3 := (J_N hJ).1.2.1.1
  obtain ⟨-, ⟨-, -, p3, p4, -⟩, -⟩ := id (J_N hJ)
  have hf : ∀ k, hpQ t l m r k = true → frN t k < nld t := fun k h => by
    unfold hpQ at h
    rw [Bool.and_eq_true, decide_eq_true_iff] at h
    exact (ft_ok hJ h.1).2.2.1
  have ht : ∀ k, hpQ t l m r k = true → toN t k < nld t := fun k h => by
    unfold hpQ at h
    rw [Bool.and_eq_true, decide_eq_true_iff] at h
    exact (ft_ok hJ h.1).2.2.2.1
  rw [mo_partsBy_eq]
  obtain ⟨s1, e1, e2, e3⟩ := loopS (σ := mSt) (fun s1 i => mo_partsBy_3 s1 (nn l) (nn m) r (nn i)) (nld t) (fun i s1 => Ch [207] [] s s1 ∧ ∀ j, j < i → s1 207 j = nn j) (i0 := 0) (s0 := s) (fun i s1 hi hI => by
    show ∃ s', mo_partsBy_3 s1 (nn l) (nn m) r (nn i) = mo_partsBy_3 s' (nn l) (nn m) r (nn (i + 1)) ∧ _
    obtain ⟨c1, c2⟩ := hI
    have hK1 : K t s1 := K_ch c1 rfl rfl hK
    refine ⟨wr s1 207 i (nn i), ?_, Ch_w rfl rfl c1, fun j hj => ?_⟩
    · rw [mo_partsBy_3_eq s1 (nn l) (nn m) r (nn i), K_m hK1 0 rfl, em, en, if_neg (nle hi (by omega)), nn_b (i := i) (n := 8) (by omega) (by decide), gd_t, nn_n (by omega), nn_s]
    · rw [wr_at]
      by_cases e : j = i
      · rw [e, upd_at]
      · rw [upd_ne e]; exact c2 j (by omega)) (by omega) ⟨Ch_rf, fun j hj => by omega⟩
  have e1 : mo_partsBy_3 s (nn l) (nn m) r (nn 0) = mo_partsBy_3 s1 (nn l) (nn m) r (nn (nld t)) := e1
  have hK1 : K t s1 := K_ch e2 rfl rfl hK
  have f1 : mo_partsBy_3 s (nn l) (nn m) r (nn 0) = mo_partsBy_36 s1 (nn l) (nn m) r (nn (nld t)) (nn 0) := by
    rw [e1, mo_partsBy_3_eq, K_m hK1 0 rfl, em, en, if_pos (yle (Nat.le_refl _) (by omega))]
    rfl
  obtain ⟨⟨s2, c⟩, g1, g2, g3, g4⟩ := loopS (σ := mSt × Int32) (fun p k => mo_partsBy_36 p.1 (nn l) (nn m) r p.2 (nn k)) (nln t) (fun k p => Ch [207] [] s p.1 ∧ (∀ j, j < nld t → p.1 207 j = nn (lbM (hpQ t l m r) (frN t) (toN t) k j)) ∧ p.2 = nn (cnM (hpQ t l m r) (frN t) (toN t) (nld t) k)) (i0 := 0) (s0 := (s1, nn (nld t))) (fun k p hk hI => by
    obtain ⟨s2, c⟩ := p
    show ∃ p' : mSt × Int32, mo_partsBy_36 s2 (nn l) (nn m) r c (nn k) = mo_partsBy_36 p'.1 (nn l) (nn m) r p'.2 (nn (k + 1)) ∧ _
    obtain ⟨c1, c2, c3⟩ := hI
    have c1 : Ch [207] [] s s2 := c1
    have c2 : ∀ j, j < nld t → s2 207 j = nn (lbM (hpQ t l m r) (frN t) (toN t) k j) := c2
    have c3 : c = nn (cnM (hpQ t l m r) (frN t) (toN t) (nld t) k) := c3
    have hK2 : K t s2 := K_ch c1 rfl rfl hK
    have r48 : s2 201 k = rmV t false k := by rw [c1.1 201 rfl rfl]; exact hR k hk
    obtain ⟨q1, q2, q3, q4, q5, q6, -⟩ := ft_ok hJ hk
    have lbs : ∀ j, lbM (hpQ t l m r) (frN t) (toN t) (k + 1) j = if hpQ t l m r k = true ∧ lbM (hpQ t l m r) (frN t) (toN t) k j = lbM (hpQ t l m r) (frN t) (toN t) k (frN t k) then lbM (hpQ t l m r) (frN t) (toN t) k (toN t k) else lbM (hpQ t l m r) (frN t) (toN t) k j := fun _ => rfl
    have cns : cnM (hpQ t l m r) (frN t) (toN t) (nld t) (k + 1) = if hpQ t l m r k = true ∧ ¬ lbM (hpQ t l m r) (frN t) (toN t) k (frN t k) = lbM (hpQ t l m r) (frN t) (toN t) k (toN t k) then cnM (hpQ t l m r) (frN t) (toN t) (nld t) k - 1 else cnM (hpQ t l m r) (frN t) (toN t) (nld t) k := rfl
    have hlt : ∀ j, j < nld t → lbM (hpQ t l m r) (frN t) (toN t) k j < nld t := lbM_lt ht k
    have b28 : s2 186 k = t 28 k := by rw [K_at hK2 186 rfl, p3]
    have b29 : s2 187 k = t 29 k := by rw [K_at hK2 187 rfl, p4]
    have bf := c2 _ q3
    have bt := c2 _ q4
    have hF := hlt _ q3
    have hT := hlt _ q4
    have st : mo_partsBy_36 s2 (nn l) (nn m) r c (nn k) = if hpQ t l m r k = true then (if lbM (hpQ t l m r) (frN t) (toN t) k (frN t k) = lbM (hpQ t l m r) (frN t) (toN t) k (toN t k) then mo_partsBy_36 s2 (nn l) (nn m) r c (nn (k + 1)) else mo_partsBy_106 s2 (nn l) (nn m) r c (nn k) (nn (lbM (hpQ t l m r) (frN t) (toN t) k (frN t k))) (nn (lbM (hpQ t l m r) (frN t) (toN t) k (toN t k))) 0) else mo_partsBy_36 s2 (nn l) (nn m) r c (nn (k + 1)) := by
      rw [mo_partsBy_36_eq, K_m hK2 3 rfl, em3, el, if_neg (nle hk (by omega)), nn_b (i := k) (n := 12) (by omega) (by decide), nn_n (by omega), b28, b29, q1, q2, r48]
      simp only [gd_t]
      rw [show s2 207 (t 28 k).toNatClampNeg = _ from bf, show s2 207 (t 29 k).toNatClampNeg = _ from bt, nn_s]
      generalize mo_partsBy_106 s2 (nn l) (nn m) r c (nn k) (nn (lbM (hpQ t l m r) (frN t) (toN t) k (frN t k))) (nn (lbM (hpQ t l m r) (frN t) (toN t) k (toN t k))) 0 = G
      have eqv : (nn (lbM (hpQ t l m r) (frN t) (toN t) k (frN t k)) = nn (lbM (hpQ t l m r) (frN t) (toN t) k (toN t k))) ↔ (lbM (hpQ t l m r) (frN t) (toN t) k (frN t k) = lbM (hpQ t l m r) (frN t) (toN t) k (toN t k)) := nn_eq (by omega) (by omega)
      simp only [eqv]
      generalize (lbM (hpQ t l m r) (frN t) (toN t) k (frN t k)) = F
      generalize (lbM (hpQ t l m r) (frN t) (toN t) k (toN t k)) = T
      unfold hpQ
      rw [decide_eq_true hk, Bool.true_and]
      by_cases a1 : k = l
      · rw [if_pos (by rw [a1]), decide_eq_false (fun w => w a1)]; rfl
      · rw [if_neg (fun w => a1 ((nn_eq (by omega) (by omega)).mp w)), decide_eq_true a1, Bool.true_and]
        by_cases a2 : k = m
        · rw [if_pos (by rw [a2]), decide_eq_false (fun w => w a2)]; rfl
        · rw [if_neg (fun w => a2 ((nn_eq (by omega) (by omega)).mp w)), decide_eq_true a2, Bool.true_and]
          by_cases a3 : rmV t false k < r
          · rw [if_pos a3, decide_eq_true a3]; rfl
          · rw [if_neg a3, decide_eq_false a3]; rfl
    rw [st]
    by_cases a : hpQ t l m r k = true
    · rw [if_pos a]
      by_cases b : lbM (hpQ t l m r) (frN t) (toN t) k (frN t k) = lbM (hpQ t l m r) (frN t) (toN t) k (toN t k)
      · rw [if_pos b]
        refine ⟨(s2, c), rfl, c1, fun j hj => ?_, ?_⟩
        · show s2 207 j = _
          rw [c2 j hj, lbs]
          split
          · next w => rw [w.2, b]
          · rfl
        · show c = _
          rw [c3, cns, if_neg (fun w => w.2 b)]
      · rw [if_neg b]
        generalize hx : nn (lbM (hpQ t l m r) (frN t) (toN t) k (frN t k)) = x
        generalize hy : nn (lbM (hpQ t l m r) (frN t) (toN t) k (toN t k)) = y
        obtain ⟨s3, j1, j2, j3, j4⟩ := loopS (σ := mSt) (fun s1 i => mo_partsBy_106 s1 (nn l) (nn m) r c (nn k) x y (nn i)) (nld t) (fun i s1 => Ch [207] [] s2 s1 ∧ (∀ j, j < i → s1 207 j = if s2 207 j = x then y else s2 207 j) ∧ ∀ j, i ≤ j → s1 207 j = s2 207 j) (i0 := 0) (s0 := s2) (fun i s1 hi hI => by
          show ∃ s', mo_partsBy_106 s1 (nn l) (nn m) r c (nn k) x y (nn i) = mo_partsBy_106 s' (nn l) (nn m) r c (nn k) x y (nn (i + 1)) ∧ _
          obtain ⟨d1, d2, d3⟩ := hI
          have hK1 : K t s1 := K_ch d1 rfl rfl hK2
          rw [mo_partsBy_106_eq s1 (nn l) (nn m) r c (nn k) x y (nn i), K_m hK1 0 rfl, em, en, if_neg (nle hi (by omega)), nn_b (i := i) (n := 8) (by omega) (by decide)]
          simp only [gd_t]
          rw [nn_n (by omega), nn_s, d3 i (Nat.le_refl _)]
          by_cases w : s2 207 i = x
          · rw [if_pos w]
            refine ⟨_, rfl, Ch_w rfl rfl d1, fun j hj => ?_, fun j hj => ?_⟩
            · rw [wr_at]
              by_cases e : j = i
              · rw [e, upd_at, if_pos w]
              · rw [upd_ne e]; exact d2 j (by omega)
            · rw [wr_at, upd_ne (by omega)]; exact d3 j (by omega)
          · rw [if_neg w]
            refine ⟨_, rfl, Ch_w rfl rfl d1, fun j hj => ?_, fun j hj => ?_⟩
            · rw [wr_at]
              by_cases e : j = i
              · rw [e, upd_at, if_neg w]
              · rw [upd_ne e]; exact d2 j (by omega)
            · rw [wr_at, upd_ne (by omega)]; exact d3 j (by omega)) (by omega) ⟨Ch_rf, fun j hj => by omega, fun j _ => rfl⟩
        have j1 : mo_partsBy_106 s2 (nn l) (nn m) r c (nn k) x y 0 = mo_partsBy_106 s3 (nn l) (nn m) r c (nn k) x y (nn (nld t)) := j1
        have hK3 : K t s3 := K_ch j2 rfl rfl hK2
        refine ⟨(s3, c + (-1)), ?_, Ch_tr c1 j2, fun j hj => ?_, ?_⟩
        · rw [j1, mo_partsBy_106_eq, K_m hK3 0 rfl, em, en, if_pos (yle (Nat.le_refl _) (by omega)), nn_s]
        · show s3 207 j = _
          rw [j3 j hj, c2 j hj, lbs, ← hx, ← hy]
          have := hlt j hj
          by_cases w : lbM (hpQ t l m r) (frN t) (toN t) k j = lbM (hpQ t l m r) (frN t) (toN t) k (frN t k)
          · rw [if_pos (by rw [w]), if_pos ⟨a, w⟩]
          · rw [if_neg (fun v => w ((nn_eq (by omega) (by omega)).mp v)), if_neg (fun v => w v.2)]
        · show c + (-1) = _
          have p1 := cn_pos hf ht (show 1 ≤ nld t by omega) k
          rw [cn_eq] at p1
          rw [c3, cns, if_pos ⟨a, b⟩, nn_dec p1]
    · rw [if_neg a]
      refine ⟨(s2, c), rfl, c1, fun j hj => ?_, ?_⟩
      · show s2 207 j = _
        rw [c2 j hj, lbs, if_neg (fun w => a w.1)]
      · show c = _
        rw [c3, cns, if_neg (fun w => a w.1)]) (by omega) ⟨e2, e3, rfl⟩
  have g1 : mo_partsBy_36 s1 (nn l) (nn m) r (nn (nld t)) (nn 0) = mo_partsBy_36 s2 (nn l) (nn m) r c (nn (nln t)) := g1
  have g2 : Ch [207] [] s s2 := g2
  have g4 : c = _ := g4
  have hK2 : K t s2 := K_ch g2 rfl rfl hK
  refine ⟨s2, ?_, g2⟩
  refine (f1.trans g1).trans ?_
  rw [mo_partsBy_36_eq, K_m hK2 3 rfl, em3, el, if_pos (yle (Nat.le_refl _) (by omega)), g4, ← cn_eq]
  rfl
end HPS
