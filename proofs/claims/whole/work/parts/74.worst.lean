/-! the cases parts, worst -/
theorem mw_0_400 (s : mSt) (x : Int32) : mo_in s x.toInt64 0 400 = rI (wb x 0 400) s := mowc s x 0 400 rfl rfl
theorem c_parts : CS3 J LL_parts mo_parts := by
  intro s x y r hJ
  have hN := J_N hJ
  have bl := hN.1.2.1.2
  obtain ⟨el, h12, ei⟩ := nln_ok hJ
  by_cases h1 : wb x 0 (s 25 5 - 1) = 0
  · exact ⟨-1, s, s, by rw [LL_parts_eq, hasN hN, bI_rI, if_pos h1], by rw [mo_parts_eq, moN hN, bI_rI, if_pos h1], hJ⟩
  by_cases h2 : wb y 0 (s 25 5 - 1) = 0
  · exact ⟨-1, s, s, by rw [LL_parts_eq, hasN hN, bI_rI, if_neg h1, hasN hN, bI_rI, if_pos h2], by rw [mo_parts_eq, moN hN, bI_rI, if_neg h1, moN hN, bI_rI, if_pos h2], hJ⟩
  by_cases h3 : wb r 0 400 = 0
  · exact ⟨-1, s, s, by rw [LL_parts_eq, hasN hN, bI_rI, if_neg h1, hasN hN, bI_rI, if_neg h2, LLw, bI_rI, if_pos h3], by rw [mo_parts_eq, moN hN, bI_rI, if_neg h1, moN hN, bI_rI, if_neg h2, mw_0_400, bI_rI, if_pos h3], hJ⟩
  obtain ⟨l, n1, ex, en1, hl, hn1⟩ := wb_nn bl (by decide) h1
  obtain ⟨m, n2, ey, en2, hm, hn2⟩ := wb_nn bl (by decide) h2
  subst ex ey
  obtain ⟨s1, a1, a2, a3⟩ := keepC hJ K_rf false
  have K1 : K s s1 := K_ch a2 rfl rfl K_rf
  obtain ⟨s2, b1, b2⟩ := hwC hJ K1 a3 (l := l) (m := m) (by omega) (by omega) r
  have K2 : K s s2 := K_ch b2 rfl rfl K1
  have J2 := K_J K2 hJ
  obtain ⟨s3, c1, c2, c3⟩ := roomsM hJ K2
  have K3 : K s s3 := K_ch c2 rfl rfl K2
  obtain ⟨s4, d1, d2⟩ := hwM hJ K3 c3 (l := l) (m := m) (by omega) (by omega) r
  have K4 : K s s4 := K_ch d2 rfl rfl K3
  have e25 : s2 25 5 = s 25 5 := by rw [K_at K2 25 rfl]
  rw [bi_f] at a1
  refine ⟨nn (hpN s l m r), s2, s4, ?_, ?_, K_J K4 hJ⟩
  · rw [LL_parts_eq, hasN hN, bI_rI, if_neg h1, hasN hN, bI_rI, if_neg h2, LLw, bI_rI, if_neg h3, a1, bV_rV, b1, bI_rI]
  · rw [mo_parts_eq, moN (J_N J2), e25, bI_rI, if_neg h1, moN (J_N J2), e25, bI_rI, if_neg h2, mw_0_400, bI_rI, if_neg h3, c1, bV_rV, d1, bI_rI]
/-- one pair of lines more: best pair, most heaps -/
def wpS (h : Nat → Nat → Nat) (l m : Nat) (p : Int32 × Int32) : Int32 × Int32 := if nn (h l m) ≤ p.2 then p else (100 * nn l + nn m, nn (h l m))
def wpI (h : Nat → Nat → Nat) (l : Nat) : Nat → Int32 × Int32 → Int32 × Int32
  | 0, p => p
  | k + 1, p => wpS h l (l + 1 + k) (wpI h l k p)
def wpO (h : Nat → Nat → Nat) (ne : Nat) : Nat → Int32 × Int32
  | 0 => (-4, -4)
  | n + 1 => wpI h n (ne - (n + 1)) (wpO h ne n)
def wpG (p : Int32 × Int32) : Prop := p = (-4, -4) ∨ (1 ≤ p.2.toInt ∧ ¬ p.1 = -4)
/-- how the class holds it: most, pair -/
def wpC (p : Int32 × Int32) : Int32 := if p.2 = -4 then 0 else p.2
theorem pair_ne {l m : Nat} (hl : l < 100) (hm : m < 100) : ¬ 100 * nn l + nn m = -4 := by
  have e : (100 : Int32) * nn l + nn m = nn (100 * l + m) := by rw [show (100 : Int32) = nn 100 from rfl, nn_m, nn_a]
  rw [e]
  intro q
  have := congrArg Int32.toInt q
  rw [nn_i (by omega)] at this
  have e4 : (-4 : Int32).toInt = -4 := rfl
  omega
theorem wp_step {h : Nat → Nat → Nat} (hp : ∀ l m, 1 ≤ h l m) (hb : ∀ l m, h l m ≤ 8) {l m : Nat} (hl : l < 100) (hm : m < 100) {p : Int32 × Int32} (hg : wpG p) : wpG (wpS h l m p) ∧ wpC (wpS h l m p) = (if nn (h l m) ≤ wpC p then wpC p else nn (h l m)) ∧ (wpS h l m p).1 = (if nn (h l m) ≤ wpC p then p.1 else 100 * nn l + nn m) := by
  have h1 := hp l m
  have h2 := hb l m
  have i1 := nn_i (i := h l m) (by omega)
  have e4 : (-4 : Int32).toInt = -4 := rfl
  have e0 : (0 : Int32).toInt = 0 := rfl
  have hne : ¬ nn (h l m) = -4 := fun q => by rw [q] at i1; omega
  rcases hg with hg | ⟨g1, g2⟩
  · subst hg
    have c1 : ¬ nn (h l m) ≤ -4 := by rw [Int32.le_iff_toInt_le]; omega
    have c2 : ¬ nn (h l m) ≤ 0 := by rw [Int32.le_iff_toInt_le]; omega
    have es : wpS h l m (-4, -4) = (100 * nn l + nn m, nn (h l m)) := if_neg c1
    have ec : wpC (-4, -4) = 0 := rfl
    rw [es, ec, if_neg c2, if_neg c2]
    exact ⟨Or.inr ⟨by show 1 ≤ (nn (h l m)).toInt; omega, pair_ne hl hm⟩, if_neg hne, rfl⟩
  · have hq : ¬ p.2 = -4 := fun q => by rw [q] at g1; omega
    have ec : wpC p = p.2 := if_neg hq
    rw [ec]
    by_cases c : nn (h l m) ≤ p.2
    · have es : wpS h l m p = p := if_pos c
      rw [es, if_pos c, if_pos c, ec]
      exact ⟨Or.inr ⟨g1, g2⟩, rfl, rfl⟩
    · have es : wpS h l m p = (100 * nn l + nn m, nn (h l m)) := if_neg c
      rw [es, if_neg c, if_neg c]
      exact ⟨Or.inr ⟨by show 1 ≤ (nn (h l m)).toInt; omega, pair_ne hl hm⟩, if_neg hne, rfl⟩
theorem c_worst : CS2 J LL_worst mo_worst := by
  intro t r x hJ
  by_cases h1 : wb r 0 400 = 0
  · exact ⟨-1, t, t, by rw [LL_worst_eq, LLw, bI_rI, if_pos h1], by rw [mo_worst_eq, mw_0_400, bI_rI, if_pos h1], hJ⟩
  by_cases h2 : wb x 0 1 = 0
  · exact ⟨-1, t, t, by rw [LL_worst_eq, LLw, bI_rI, if_neg h1, LLw, bI_rI, if_pos h2], by rw [mo_worst_eq, mw_0_400, bI_rI, if_neg h1, mw_0_1, bI_rI, if_pos h2], hJ⟩
  obtain ⟨el, h12, ei⟩ := nln_ok hJ
  obtain ⟨ed, h8, -⟩ := nld_ok hJ
  have em3 := (J_N hJ).1.2.1.1
  obtain ⟨h, hh⟩ : ∃ h : Nat → Nat → Nat, h = fun l m => max 1 (hpN t l m r) := ⟨_, rfl⟩
  have hpos : ∀ l m, 1 ≤ h l m := fun l m => by rw [hh]; show 1 ≤ max 1 _; omega
  have hbd : ∀ l m, h l m ≤ 8 := fun l m => by
    have := cn_le (Q := hpQ t l m r) (fr := frN t) (to := toN t) (nl := nld t) (nln t)
    have e : hpN t l m r = cnC (hpQ t l m r) (frN t) (toN t) (nld t) (nln t) := rfl
    rw [hh]; show max 1 (hpN t l m r) ≤ 8
    omega
  have heq : ∀ l m, 1 ≤ nln t → hpN t l m r = h l m := fun l m hn => by
    obtain ⟨-, -, q3, -⟩ := ft_ok hJ (show 0 < nln t by omega)
    have := cn_pos (Q := hpQ t l m r) (fr := frN t) (to := toN t) (nl := nld t) (fun k w => by
      unfold hpQ at w
      rw [Bool.and_eq_true, decide_eq_true_iff] at w
      exact (ft_ok hJ w.1).2.2.1) (fun k w => by
      unfold hpQ at w
      rw [Bool.and_eq_true, decide_eq_true_iff] at w
      exact (ft_ok hJ w.1).2.2.2.1) (by omega) (nln t)
    have e : hpN t l m r = cnC (hpQ t l m r) (frN t) (toN t) (nld t) (nln t) := rfl
    rw [hh]; show _ = max 1 (hpN t l m r)
    omega
  -- the class
  have hC : ∀ s, K t s → (∀ k, k < nln t → s 48 k = rmV t false k) → ∃ s', LL_worst_39 s r x 0 (-4) 0 = LL_worst_39 s' r x (wpC (wpO h (nln t) (nln t))) (wpO h (nln t) (nln t)).1 (nn (nln t)) ∧ K t s' ∧ wpG (wpO h (nln t) (nln t)) := fun s hK hR => by
    obtain ⟨⟨s', p⟩, e1, e2, e3, e4, e5⟩ := loopS (σ := mSt × (Int32 × Int32)) (fun q l => LL_worst_39 q.1 r x (wpC q.2) q.2.1 (nn l)) (nln t) (fun l q => K t q.1 ∧ (∀ k, k < nln t → q.1 48 k = rmV t false k) ∧ wpG q.2 ∧ q.2 = wpO h (nln t) l) (i0 := 0) (s0 := (s, (-4, -4))) (fun l q hl hI => by
      obtain ⟨s1, p⟩ := q
      show ∃ q' : mSt × (Int32 × Int32), LL_worst_39 s1 r x (wpC p) p.1 (nn l) = LL_worst_39 q'.1 r x (wpC q'.2) q'.2.1 (nn (l + 1)) ∧ _
      obtain ⟨i1, i2, i3, i4⟩ := hI
      have i1 : K t s1 := i1
      have i2 : ∀ k, k < nln t → s1 48 k = rmV t false k := i2
      have i3 : wpG p := i3
      have i4 : p = wpO h (nln t) l := i4
      have est : LL_worst_39 s1 r x (wpC p) p.1 (nn l) = LL_worst_57 s1 r x (wpC p) p.1 (nn l) (nn (l + 1 + 0)) := by
        rw [LL_worst_39_eq, K_at i1 25 rfl, el, if_neg (nle hl (by omega)), nn_s]
      obtain ⟨⟨s2, p2⟩, f1, f2, f3, f4, f5⟩ := loopS (σ := mSt × (Int32 × Int32)) (fun q k => LL_worst_57 q.1 r x (wpC q.2) q.2.1 (nn l) (nn (l + 1 + k))) (nln t - (l + 1)) (fun k q => K t q.1 ∧ (∀ k, k < nln t → q.1 48 k = rmV t false k) ∧ wpG q.2 ∧ q.2 = wpI h l k p) (i0 := 0) (s0 := (s1, p)) (fun k q hk hI => by
        obtain ⟨s2, p2⟩ := q
        show ∃ q' : mSt × (Int32 × Int32), LL_worst_57 s2 r x (wpC p2) p2.1 (nn l) (nn (l + 1 + k)) = LL_worst_57 q'.1 r x (wpC q'.2) q'.2.1 (nn l) (nn (l + 1 + (k + 1))) ∧ _
        obtain ⟨j1, j2, j3, j4⟩ := hI
        have j1 : K t s2 := j1
        have j2 : ∀ k, k < nln t → s2 48 k = rmV t false k := j2
        have j3 : wpG p2 := j3
        have j4 : p2 = wpI h l k p := j4
        obtain ⟨s3, b1, b2⟩ := hwC hJ j1 j2 (l := l) (m := l + 1 + k) (by omega) (by omega) r
        obtain ⟨w1, w2, w3⟩ := wp_step hpos hbd (l := l) (m := l + 1 + k) (by omega) (by omega) j3
        refine ⟨(s3, wpS h l (l + 1 + k) p2), ?_, K_ch b2 rfl rfl j1, fun k' hk' => ?_, w1, ?_⟩
        · rw [LL_worst_57_eq, K_at j1 25 rfl, el, if_neg (nle (by omega) (by omega)), b1, bI_rI, heq _ _ (by omega), nn_s]
          show _ = LL_worst_57 s3 r x (wpC (wpS h l (l + 1 + k) p2)) (wpS h l (l + 1 + k) p2).1 (nn l) (nn (l + 1 + (k + 1)))
          rw [w2, w3]
          split <;> rfl
        · show s3 48 k' = _
          rw [b2.1 48 rfl rfl]; exact j2 k' hk'
        · show wpS h l (l + 1 + k) p2 = _
          rw [j4]; rfl) (by omega) ⟨i1, i2, i3, rfl⟩
      have f1 : LL_worst_57 s1 r x (wpC p) p.1 (nn l) (nn (l + 1 + 0)) = LL_worst_57 s2 r x (wpC p2) p2.1 (nn l) (nn (l + 1 + (nln t - (l + 1)))) := f1
      have f2 : K t s2 := f2
      have f5 : p2 = wpI h l (nln t - (l + 1)) p := f5
      refine ⟨(s2, p2), ?_, f2, f3, f4, ?_⟩
      · rw [est, f1, LL_worst_57_eq, K_at f2 25 rfl, el, if_pos (yle (by omega) (by omega)), nn_s]
      · show p2 = _
        rw [f5, i4]; rfl) (by omega) ⟨hK, hR, Or.inl rfl, rfl⟩
    have e5 : p = wpO h (nln t) (nln t) := e5
    have e4 : wpG p := e4
    rw [e5] at e4
    refine ⟨s', ?_, e2, e4⟩
    have e1 : LL_worst_39 s r x 0 (-4) (nn 0) = LL_worst_39 s' r x (wpC p) p.1 (nn (nln t)) := e1
    rw [e5] at e1
    exact e1
  -- the reference
  have hM : ∀ s, K t s → (∀ k, k < nln t → s 201 k = rmV t false k) → ∃ s', mo_worst_38 s r x (-4) (-4) 0 = mo_worst_38 s' r x (wpO h (nln t) (nln t)).1 (wpO h (nln t) (nln t)).2 (nn (nln t)) ∧ K t s' := fun s hK hR => by
    obtain ⟨⟨s', p⟩, e1, e2, e3, e5⟩ := loopS (σ := mSt × (Int32 × Int32)) (fun q l => mo_worst_38 q.1 r x q.2.1 q.2.2 (nn l)) (nln t) (fun l q => K t q.1 ∧ (∀ k, k < nln t → q.1 201 k = rmV t false k) ∧ q.2 = wpO h (nln t) l) (i0 := 0) (s0 := (s, (-4, -4))) (fun l q hl hI => by
      obtain ⟨s1, p⟩ := q
      show ∃ q' : mSt × (Int32 × Int32), mo_worst_38 s1 r x p.1 p.2 (nn l) = mo_worst_38 q'.1 r x q'.2.1 q'.2.2 (nn (l + 1)) ∧ _
      obtain ⟨i1, i2, i4⟩ := hI
      have i1 : K t s1 := i1
      have i2 : ∀ k, k < nln t → s1 201 k = rmV t false k := i2
      have i4 : p = wpO h (nln t) l := i4
      have est : mo_worst_38 s1 r x p.1 p.2 (nn l) = mo_worst_53 s1 r x p.1 p.2 (nn l) (nn (l + 1 + 0)) := by
        rw [mo_worst_38_eq, K_m i1 3 rfl, em3, el, if_neg (nle hl (by omega)), nn_s]
      obtain ⟨⟨s2, p2⟩, f1, f2, f3, f5⟩ := loopS (σ := mSt × (Int32 × Int32)) (fun q k => mo_worst_53 q.1 r x q.2.1 q.2.2 (nn l) (nn (l + 1 + k))) (nln t - (l + 1)) (fun k q => K t q.1 ∧ (∀ k, k < nln t → q.1 201 k = rmV t false k) ∧ q.2 = wpI h l k p) (i0 := 0) (s0 := (s1, p)) (fun k q hk hI => by
        obtain ⟨s2, p2⟩ := q
        show ∃ q' : mSt × (Int32 × Int32), mo_worst_53 s2 r x p2.1 p2.2 (nn l) (nn (l + 1 + k)) = mo_worst_53 q'.1 r x q'.2.1 q'.2.2 (nn l) (nn (l + 1 + (k + 1))) ∧ _
        obtain ⟨j1, j2, j4⟩ := hI
        have j1 : K t s2 := j1
        have j2 : ∀ k, k < nln t → s2 201 k = rmV t false k := j2
        have j4 : p2 = wpI h l k p := j4
        obtain ⟨s3, b1, b2⟩ := hwM hJ j1 j2 (l := l) (m := l + 1 + k) (by omega) (by omega) r
        refine ⟨(s3, wpS h l (l + 1 + k) p2), ?_, K_ch b2 rfl rfl j1, fun k' hk' => ?_, ?_⟩
        · rw [mo_worst_53_eq, K_m j1 3 rfl, em3, el, if_neg (nle (by omega) (by omega)), b1, bI_rI, heq _ _ (by omega), mo_worst_92_eq, mo_worst_92_eq, nn_s]
          show _ = mo_worst_53 s3 r x (wpS h l (l + 1 + k) p2).1 (wpS h l (l + 1 + k) p2).2 (nn l) (nn (l + 1 + (k + 1)))
          unfold wpS
          split <;> rfl
        · show s3 201 k' = _
          rw [b2.1 201 rfl rfl]; exact j2 k' hk'
        · show wpS h l (l + 1 + k) p2 = _
          rw [j4]; rfl) (by omega) ⟨i1, i2, rfl⟩
      have f1 : mo_worst_53 s1 r x p.1 p.2 (nn l) (nn (l + 1 + 0)) = mo_worst_53 s2 r x p2.1 p2.2 (nn l) (nn (l + 1 + (nln t - (l + 1)))) := f1
      have f2 : K t s2 := f2
      have f5 : p2 = wpI h l (nln t - (l + 1)) p := f5
      refine ⟨(s2, p2), ?_, f2, f3, ?_⟩
      · rw [est, f1, mo_worst_53_eq, K_m f2 3 rfl, em3, el, if_pos (yle (by omega) (by omega)), nn_s]
      · show p2 = _
        rw [f5, i4]; rfl) (by omega) ⟨hK, hR, rfl⟩
    have e5 : p = wpO h (nln t) (nln t) := e5
    refine ⟨s', ?_, e2⟩
    have e1 : mo_worst_38 s r x (-4) (-4) (nn 0) = mo_worst_38 s' r x p.1 p.2 (nn (nln t)) := e1
    rw [e5] at e1
    exact e1
  obtain ⟨s1, a1, a2, a3⟩ := keepC hJ K_rf false
  rw [bi_f] at a1
  have K1 : K t s1 := K_ch a2 rfl rfl K_rf
  obtain ⟨s2, b1, K2, b3⟩ := hC s1 K1 a3
  obtain ⟨s3, c1, c2, c3⟩ := roomsM hJ K2
  have K3 : K t s3 := K_ch c2 rfl rfl K2
  obtain ⟨s4, d1, K4⟩ := hM s3 K3 c3
  generalize wpO h (nln t) (nln t) = p at *
  refine ⟨if x = 0 then p.1 else p.2, s2, s4, ?_, ?_, K_J K4 hJ⟩
  · rw [LL_worst_eq, LLw, bI_rI, if_neg h1, LLw, bI_rI, if_neg h2, a1, bV_rV, b1, LL_worst_39_eq, K_at K2 25 rfl, el, if_pos (yle (Nat.le_refl _) (by omega))]
    by_cases hx : x = 0
    · rw [if_pos hx, if_pos hx]
    · rw [if_neg hx, if_neg hx]
      rcases b3 with b3 | ⟨g1, g2⟩
      · subst b3
        rfl
      · have hq : ¬ p.2 = -4 := fun q => by rw [q] at g1; exact absurd g1 (by decide)
        rw [if_neg g2]
        unfold wpC
        rw [if_neg hq]
  · rw [mo_worst_eq, mw_0_400, bI_rI, if_neg h1, mw_0_1, bI_rI, if_neg h2, c1, bV_rV, d1, mo_worst_38_eq, K_m K4 3 rfl, em3, el, if_pos (yle (Nat.le_refl _) (by omega))]
    split <;> rfl
