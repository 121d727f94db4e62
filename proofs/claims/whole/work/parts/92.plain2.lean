/-! the case plain -/
def plL : List Nat := [135, 162, 163, 164, 165]
section PL2
variable {t s : mSt}
theorem plC_bits (h7 : jnN t ≤ 7) {p : plP} (hG : plG t p) {k : Nat} (hk : k < jnN t) (hd : (pD p).testBit k = false) : ((2 ^ jnN t - 1) ^^^ pD p) ^^^ 2 ^ k = (2 ^ jnN t - 1) ^^^ (pD p ||| 2 ^ k) := by
  rw [Nat.xor_assoc]
  congr 1
  apply Nat.eq_of_testBit_eq
  intro i
  rw [tb_xor, tb_or]
  by_cases e : k = i
  · subst e
    rw [hd, decide_eq_true rfl]; rfl
  · rw [decide_eq_false e, Bool.xor_false, Bool.or_false]
theorem doC (hJ : J t) (h7 : jnN t ≤ 7) {p : plP} (hG : plG t p) (hC : plC t p s) (h1 : pJ0 t p ≠ 3) (h2 : pK0 t p ≠ 9) : ∃ s', me_doPlainly s (nn (pJ0 t p)) (nn (pK0 t p)) = rV s' ∧ Ch plL [] s s' ∧ plC t (plS t p) s' := by
  obtain ⟨en, h3, ei⟩ := nsh_ok hJ
  obtain ⟨-, hb8, -⟩ := nbr_ok hJ
  obtain ⟨hK, ⟨w1, w2, w3⟩, hr, h18, h19⟩ := id hC
  have hj : pJ0 t p < nsh t := by
    rcases pfF_ok (pF p) (pS p) (nsh t) h3 with h | h
    · exact absurd h h1
    · exact h.1
  have hk : pK0 t p < jnN t ∧ pcB t p (pJ0 t p) (pK0 t p) = true := by
    rcases psJ_ok (pcB t p (pJ0 t p)) (phV t p (pJ0 t p)) (jnN t) h7 with q | q
    · exact absurd q h2
    · exact q
  have hd : (pD p).testBit (pK0 t p) = false := by
    have := hk.2
    unfold pcB at this
    cases e : (pD p).testBit (pK0 t p) with
    | false => rfl
    | true => rw [e] at this; cases this
  have eS : plS t p = (upd (pX p) (pJ0 t p) (bxV t (jI t (pK0 t p))), upd (pY p) (pJ0 t p) (byV t (jI t (pK0 t p))), upd (pR p) (pJ0 t p) (pR p (pJ0 t p) - rlV t (jI t (pK0 t p))), upd (pF p) (pJ0 t p) (pF p (pJ0 t p) + phV t p (pJ0 t p) (pK0 t p)), pS p, pD p ||| 2 ^ pK0 t p, pC p + wgV t (pK0 t p) * ((pF p (pJ0 t p) + phV t p (pJ0 t p) (pK0 t p)) - t 35 1)) := by
    unfold plS
    rw [if_neg h1, if_neg h2]
  rw [eS]
  have hrl := rest_lt h7 hG
  have hkb := hk.1
  have hb := jI_lt hkb
  obtain ⟨r1, r2, r3, r4⟩ := hr _ hj
  have ephV : hrV t (jI t (pK0 t p)) (pX p (pJ0 t p)) (pY p (pJ0 t p)) = phV t p (pJ0 t p) (pK0 t p) := rfl
  generalize hH : phV t p (pJ0 t p) (pK0 t p) = H at *
  generalize pK0 t p = k at *
  generalize pJ0 t p = j at *
  have x1 : inb (nn j) 3 = true := nn_b (by omega) (by decide)
  have x2 : inb (nn k) 7 = true := nn_b (by omega) (by decide)
  have y1 : (nn j).toNatClampNeg = j := nn_n (by omega)
  have y2 : (nn k).toNatClampNeg = k := nn_n (by omega)
  obtain ⟨g1, hg1⟩ : ∃ g1, g1 = wr (wr s 165 j (pF p j + H)) 135 19 (pC p + wgV t k * ((pF p j + H) - t 35 1)) := ⟨_, rfl⟩
  have c1 : Ch plL [] s g1 := by rw [hg1]; exact Ch_w rfl rfl (Ch_w rfl rfl Ch_rf)
  have k1 : K t g1 := K_ch c1 rfl rfl hK
  obtain ⟨g2, hg2⟩ : ∃ g2, g2 = wr g1 164 j (pR p j - rlV t (jI t k)) := ⟨_, rfl⟩
  have c2 : Ch plL [] s g2 := by rw [hg2]; exact Ch_w rfl rfl c1
  have k2 : K t g2 := K_ch c2 rfl rfl hK
  obtain ⟨g3, hg3⟩ : ∃ g3, g3 = wr g2 162 j (bxV t (jI t k)) := ⟨_, rfl⟩
  have c3 : Ch plL [] s g3 := by rw [hg3]; exact Ch_w rfl rfl c2
  have k3 : K t g3 := K_ch c3 rfl rfl hK
  have z1 : wr s 165 j (pF p j + H) 165 j = pF p j + H := by rw [wr_at, upd_at]
  have z2 : g1 136 k = nn (jI t k) := by rw [c1.1 136 rfl rfl]; exact w2 k hkb
  have z3 : g2 136 k = nn (jI t k) := by rw [c2.1 136 rfl rfl]; exact w2 k hkb
  have z4 : g3 135 18 = nn ((2 ^ jnN t - 1) ^^^ pD p) := by
    rw [hg3, hg2, hg1, wr_ne _ _ _ (by omega), wr_ne _ _ _ (by omega), wr_at, upd_ne (by omega), wr_ne _ _ _ (by omega)]; exact h18
  refine ⟨wr (wr g3 163 j (byV t (jI t k))) 135 18 (nn ((2 ^ jnN t - 1) ^^^ (pD p ||| 2 ^ k))), ?_, Ch_w rfl rfl (Ch_w rfl rfl c3), ?_⟩
  · rw [me_doPlainly_eq, x1, x2]
    simp only [gd_t]
    rw [y1, y2, w2 k hkb, r1, r2, hrCK hJ hK hb, bI_rI, ephV, r4, h19, w3 k hkb, z1, K_at hK 35 rfl, ← hg1, w2 k hkb, rlCK hJ k1 hb, bI_rI, r3, ← hg2, z2, bxCK hJ k2 hb, bI_rI, ← hg3, z3, byCK hJ k3 hb, bI_rI, z4, bxor hrl (by omega), plC_bits h7 hG hkb hd]
  · have cE : Ch plL [] s (wr (wr g3 163 j (byV t (jI t k))) 135 18 (nn ((2 ^ jnN t - 1) ^^^ (pD p ||| 2 ^ k)))) := Ch_w rfl rfl (Ch_w rfl rfl c3)
    refine ⟨K_ch cE rfl rfl hK, ⟨?_, fun i hi => by rw [cE.1 136 rfl rfl]; exact w2 i hi, fun i hi => by rw [cE.1 137 rfl rfl]; exact w3 i hi⟩, fun i hi => ?_, ?_, ?_⟩
    · rw [wr_at, upd_ne (by omega), wr_ne _ _ _ (by omega), hg3, hg2, hg1, wr_ne _ _ _ (by omega), wr_ne _ _ _ (by omega), wr_at, upd_ne (by omega), wr_ne _ _ _ (by omega)]; exact w1
    · obtain ⟨u1, u2, u3, u4⟩ := hr i hi
      rw [hg3, hg2, hg1]
      show upd (s 162) j (bxV t (jI t k)) i = upd (pX p) j (bxV t (jI t k)) i ∧ upd (s 163) j (byV t (jI t k)) i = upd (pY p) j (byV t (jI t k)) i ∧ upd (s 164) j (pR p j - rlV t (jI t k)) i = upd (pR p) j (pR p j - rlV t (jI t k)) i ∧ upd (s 165) j (pF p j + H) i = upd (pF p) j (pF p j + H) i
      unfold upd
      by_cases e : i = j
      · rw [if_pos e, if_pos e, if_pos e, if_pos e, if_pos e, if_pos e, if_pos e, if_pos e]; exact ⟨rfl, rfl, rfl, rfl⟩
      · rw [if_neg e, if_neg e, if_neg e, if_neg e, if_neg e, if_neg e, if_neg e, if_neg e]; exact ⟨u1, u2, u3, u4⟩
    · rw [wr_at, upd_at]; rfl
    · rw [wr_at, upd_ne (by omega), wr_ne _ _ _ (by omega), hg3, hg2, hg1, wr_ne _ _ _ (by omega), wr_ne _ _ _ (by omega), wr_at, upd_at]; rfl
theorem goC (hJ : J t) (h7 : jnN t ≤ 7) : ∀ (m i : Nat) (p : plP) (s : mSt), i + m = 10 → plG t p → plC t p s → ∃ s', me_goPlainly_99 s (nn (pS p)) (nn i) = rV s' ∧ Ch plL [] s s' ∧ plC t (plI t m p) s' ∧ plG t (plI t m p) := by
  obtain ⟨en, h3, ei⟩ := nsh_ok hJ
  intro m
  induction m with
  | zero =>
    intro i p s hi hG hC
    exact ⟨s, by rw [me_goPlainly_99_eq, if_pos (show (10 : Int32) ≤ nn i from yle (i := 10) (by omega) (by omega))], Ch_rf, hC, hG⟩
  | succ m ih =>
    intro i p s hi hG hC
    have hS : pS p < 8 := hG.2.1
    rw [me_goPlainly_99_eq, if_neg (show ¬ (10 : Int32) ≤ nn i from nle (i := 10) (by omega) (by omega)), firstC hJ hG hC, bI_rI]
    by_cases c1 : pJ0 t p = 3
    · rw [if_pos c1, if_neg (by decide)]
      rw [plI_fix c1]
      exact ⟨s, rfl, Ch_rf, hC, hG⟩
    · have hj : pJ0 t p < nsh t := by
        rcases pfF_ok (pF p) (pS p) (nsh t) h3 with h | h
        · exact absurd h c1
        · exact h.1
      have eI : plI t (m + 1) p = plI t m (plS t p) := rfl
      have hG' := plG_step hJ h7 hG
      have esj := soonC hJ h7 hG hC hj
      rw [if_neg c1, if_pos (show (0 : Int32) ≤ nn (pJ0 t p) from yle (i := 0) (by omega) (by omega)), esj, bI_rI, eI]
      have eK : psJ (pcB t p (pJ0 t p)) (phV t p (pJ0 t p)) (jnN t) = pK0 t p := rfl
      rw [eK]
      by_cases c2 : pK0 t p = 9
      · rw [if_pos c2, if_neg (by decide), bor (by omega) (by omega), nn_s]
        have eS : plS t p = (pX p, pY p, pR p, pF p, pS p ||| 2 ^ pJ0 t p, pD p, pC p) := by
          unfold plS
          rw [if_neg c1, if_pos c2]
        have e2 : pS (plS t p) = pS p ||| 2 ^ pJ0 t p := by rw [eS]; rfl
        have hC' : plC t (plS t p) s := by rw [eS]; exact hC
        rw [← e2]
        exact ih (i + 1) (plS t p) s (by omega) hG' hC'
      · have hk : pK0 t p < jnN t := by
          rcases psJ_ok (pcB t p (pJ0 t p)) (phV t p (pJ0 t p)) (jnN t) h7 with q | q
          · exact absurd q c2
          · exact q.1
        obtain ⟨s1, d1, d2, d3⟩ := doC hJ h7 hG hC c1 c2
        have e2 : pS (plS t p) = pS p := by
          unfold plS
          rw [if_neg c1, if_neg c2]; rfl
        rw [if_neg c2, if_pos (show (0 : Int32) ≤ nn (pK0 t p) from yle (i := 0) (by omega) (by omega)), d1, bV_rV, nn_s, ← e2]
        obtain ⟨s', k1, k2, k3⟩ := ih (i + 1) (plS t p) s1 (by omega) hG' d3
        exact ⟨s', k1, Ch_tr d2 k2, k3⟩
/-- the first state -/
def plZ (t : mSt) : plP := (fun j => if j < nsh t then t 130 j else 0, fun j => if j < nsh t then t 131 j else 0, t 132, bgV t, 0, 0, 0)
theorem plZ_G (hJ : J t) : plG t (plZ t) := by
  obtain ⟨en, h3, ei⟩ := nsh_ok hJ
  refine ⟨fun j => ?_, by show 0 < 2 ^ 3; decide, Nat.two_pow_pos _⟩
  show bd (if j < nsh t then t 130 j else 0) 0 99 ∧ bd (if j < nsh t then t 131 j else 0) 0 99
  by_cases c : j < nsh t
  · obtain ⟨⟨z1, z2⟩, -⟩ := J_Z hJ j (by omega)
    rw [if_pos c, if_pos c]; exact ⟨z1, z2⟩
  · rw [if_neg c, if_neg c]; exact ⟨bd0 (by decide) (by decide), bd0 (by decide) (by decide)⟩
theorem plZ_M (hJ : J t) (h7 : jnN t ≤ 7) : plM t (plZ t) ≤ 10 := by
  obtain ⟨-, h3, -⟩ := nsh_ok hJ
  have h1 := ctN_le (fun j => !(pS (plZ t)).testBit j) (nsh t)
  have h2 := ctN_le (fun k => !(pD (plZ t)).testBit k) (jnN t)
  unfold plM
  omega
theorem plainC (hJ : J t) (h7 : jnN t ≤ 7) (hK : K t s) (w : s 135 3 = nn (jnN t) ∧ (∀ i, i < jnN t → s 136 i = nn (jI t i)) ∧ ∀ i, i < jnN t → s 137 i = wgV t i) : ∃ s', me_goPlainly s = rV s' ∧ Ch plL [] s s' ∧ plC t (plI t 10 (plZ t)) s' ∧ plG t (plI t 10 (plZ t)) := by
  obtain ⟨en, h3, ei⟩ := nsh_ok hJ
  rw [me_goPlainly_eq]
  obtain ⟨s1, e1, e2, e3⟩ := loopS (σ := mSt) (fun s1 j => me_goPlainly_2 s1 (nn j)) (nsh t) (fun j s1 => Ch [162, 163, 164, 165] [] s s1 ∧ ∀ i, i < j → s1 162 i = t 130 i ∧ s1 163 i = t 131 i ∧ s1 164 i = t 132 i ∧ s1 165 i = bgV t i) (i0 := 0) (s0 := s) (fun j s1 hj hI => by
    show ∃ s', me_goPlainly_2 s1 (nn j) = me_goPlainly_2 s' (nn (j + 1)) ∧ _
    obtain ⟨i1, i2⟩ := hI
    have hK1 : K t s1 := K_ch i1 rfl rfl hK
    have c1 : Ch [162, 163, 164, 165] [] s (wr (wr (wr s1 162 j (t 130 j)) 163 j (t 131 j)) 164 j (t 132 j)) := Ch_w rfl rfl (Ch_w rfl rfl (Ch_w rfl rfl i1))
    refine ⟨wr (wr (wr (wr s1 162 j (t 130 j)) 163 j (t 131 j)) 164 j (t 132 j)) 165 j (bgV t j), ?_, Ch_w rfl rfl c1, fun i hi => ?_⟩
    · rw [me_goPlainly_2_eq s1 (nn j), K_at hK1 129 rfl, en, if_neg (nle hj (by omega)), nn_b (i := j) (n := 3) (by omega) (by decide)]
      simp only [gd_t]
      rw [nn_n (by omega), K_at hK1 130 rfl, K_at hK1 131 rfl, K_at hK1 132 rfl, bgCK (K_ch c1 rfl rfl hK) (by omega), bI_rI, nn_s]
    · show upd (s1 162) j (t 130 j) i = _ ∧ upd (s1 163) j (t 131 j) i = _ ∧ upd (s1 164) j (t 132 j) i = _ ∧ upd (s1 165) j (bgV t j) i = _
      by_cases e : i = j
      · rw [e, upd_at, upd_at, upd_at, upd_at]; exact ⟨rfl, rfl, rfl, rfl⟩
      · rw [upd_ne e, upd_ne e, upd_ne e, upd_ne e]; exact i2 i (by omega)) (by omega) ⟨Ch_rf, fun i hi => by omega⟩
  have e1 : me_goPlainly_2 s (nn 0) = me_goPlainly_2 s1 (nn (nsh t)) := e1
  have K1 : K t s1 := K_ch e2 rfl rfl hK
  have h135 : s1 135 = s 135 := e2.1 135 rfl rfl
  have hb := bpow (k := jnN t) (by omega)
  have hfull : (1 <<< (nn (jnN t) &&& 31)) - 1 = nn (2 ^ jnN t - 1) := by
    rw [hb, show (1 : Int32) = nn 1 from rfl, nn_d (Nat.one_le_two_pow)]
  have cE : Ch plL [] s (wr (wr s1 135 19 0) 135 18 (nn (2 ^ jnN t - 1))) := Ch_w rfl rfl (Ch_w rfl rfl (Ch_sub e2 rfl rfl))
  have hC : plC t (plZ t) (wr (wr s1 135 19 0) 135 18 (nn (2 ^ jnN t - 1))) := by
    refine ⟨K_ch cE rfl rfl hK, ⟨?_, fun i hi => by rw [cE.1 136 rfl rfl]; exact w.2.1 i hi, fun i hi => by rw [cE.1 137 rfl rfl]; exact w.2.2 i hi⟩, fun j hj => ?_, ?_, ?_⟩
    · rw [wr_at, upd_ne (by omega), wr_at, upd_ne (by omega), h135]; exact w.1
    · obtain ⟨q1, q2, q3, q4⟩ := e3 j hj
      rw [wr_ne _ _ _ (by omega), wr_ne _ _ _ (by omega), wr_ne _ _ _ (by omega), wr_ne _ _ _ (by omega), wr_ne _ _ _ (by omega), wr_ne _ _ _ (by omega), wr_ne _ _ _ (by omega), wr_ne _ _ _ (by omega)]
      show s1 162 j = (if j < nsh t then t 130 j else 0) ∧ s1 163 j = (if j < nsh t then t 131 j else 0) ∧ s1 164 j = t 132 j ∧ s1 165 j = bgV t j
      rw [if_pos hj, if_pos hj]; exact ⟨q1, q2, q3, q4⟩
    · rw [wr_at, upd_at]
      show _ = nn ((2 ^ jnN t - 1) ^^^ 0)
      rw [Nat.xor_zero]
    · rfl
  obtain ⟨s2, f1, f2, f3⟩ := goC hJ h7 10 0 (plZ t) _ (by omega) (plZ_G hJ) hC
  have f1 : me_goPlainly_99 (wr (wr s1 135 19 0) 135 18 (nn (2 ^ jnN t - 1))) 0 0 = rV s2 := f1
  refine ⟨s2, ?_, Ch_tr cE f2, f3⟩
  refine Eq.trans e1 ?_
  rw [me_goPlainly_2_eq, K_at K1 129 rfl, en, if_pos (yle (Nat.le_refl _) (by omega)), h135, w.1, hfull, f1]
end PL2
