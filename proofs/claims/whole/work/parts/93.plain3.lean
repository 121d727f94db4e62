/-! plain by the reference; the case -/
def pmL : List Nat := [226, 227, 228, 229, 230]
section PL3
variable {t s : mSt}
def plR (t : mSt) (p : plP) (s : mSt) : Prop := K t s ∧ (s 183 56 = nn (jnN t) ∧ (∀ i, i < jnN t → s 221 i = nn (jI t i)) ∧ ∀ i, i < jnN t → s 222 i = wgV t i) ∧ ∀ j, j < nsh t → (s 226 j = pX p j ∧ s 227 j = pY p j ∧ s 228 j = pR p j ∧ s 229 j = pF p j) ∧ s 230 j = bi ((pS p).testBit j)
theorem firstM (hJ : J t) {p : plP} (hR : plR t p s) (x d c : Int32) : mo_plain_117 s x d c (-4) 0 = mo_plain_117 s x d c (if pJ0 t p = 3 then -4 else nn (pJ0 t p)) (nn (nsh t)) := by
  obtain ⟨en, h3, ei⟩ := nsh_ok hJ
  have em := (J_F hJ).1.1
  obtain ⟨hK, -, hr⟩ := hR
  obtain ⟨-, e1, -⟩ := loopS (σ := Unit) (fun _ n => mo_plain_117 s x d c (if pfF (pF p) (pS p) n = 3 then -4 else nn (pfF (pF p) (pS p) n)) (nn n)) (nsh t) (fun _ _ => True) (i0 := 0) (s0 := ()) (fun n _ hn _ => by
    show ∃ s', mo_plain_117 s x d c (if pfF (pF p) (pS p) n = 3 then -4 else nn (pfF (pF p) (pS p) n)) (nn n) = mo_plain_117 s x d c (if pfF (pF p) (pS p) (n + 1) = 3 then -4 else nn (pfF (pF p) (pS p) (n + 1))) (nn (n + 1)) ∧ True
    refine ⟨(), ?_, trivial⟩
    have hok := pfF_ok (pF p) (pS p) n (by omega)
    have eN : pfF (pF p) (pS p) (n + 1) = if (pS p).testBit n = true then pfF (pF p) (pS p) n else if pfF (pF p) (pS p) n = 3 then n else if pF p (pfF (pF p) (pS p) n) ≤ pF p n then pfF (pF p) (pS p) n else n := rfl
    rw [mo_plain_117_eq s x d c _ (nn n), K_m hK 49 rfl, em, en, if_neg (nle hn (by omega)), nn_b (i := n) (n := 3) (by omega) (by decide), gd_t, gd_t, nn_n (by omega), (hr n hn).2, bi_if, nn_s, eN]
    cases e : (pS p).testBit n with
    | true => rw [if_pos rfl, if_pos rfl]
    | false =>
      rw [if_neg (show ¬ false = true by decide), if_neg (show ¬ false = true by decide)]
      by_cases w : pfF (pF p) (pS p) n = 3
      · rw [if_pos w, if_pos w, if_pos rfl, if_neg (show ¬ n = 3 by omega)]
      · rcases hok with hok | ⟨o1, o2⟩
        · exact absurd hok w
        · have q1 := (hr n hn).1.2.2.2
          have q2 := (hr _ (show pfF (pF p) (pS p) n < nsh t by omega)).1.2.2.2
          rw [if_neg w, if_neg w, if_neg (show ¬ nn (pfF (pF p) (pS p) n) = -4 from fun z => by
            have := congrArg Int32.toInt z
            rw [nn_i (by omega)] at this
            have e4 : (-4 : Int32).toInt = -4 := rfl
            omega), nn_b (i := pfF (pF p) (pS p) n) (n := 3) (by omega) (by decide), gd_t, nn_n (by omega), q1, q2]
          by_cases z : pF p (pfF (pF p) (pS p) n) ≤ pF p n
          · rw [if_pos z, if_pos z, if_neg w]
          · rw [if_neg z, if_neg z, if_neg (show ¬ n = 3 by omega)]) (by omega) trivial
  exact e1
theorem soonM (hJ : J t) (h7 : jnN t ≤ 7) {p : plP} (hG : plG t p) (hR : plR t p s) {j : Nat} (hj : j < nsh t) (x c : Int32) : mo_plain_201 s x (nn (pD p)) c 1 (nn j) (-4) 1000000 0 = mo_plain_303 s x (nn (pD p)) c 1 (nn j) (if psJ (pcB t p j) (phV t p j) (jnN t) = 9 then -4 else nn (psJ (pcB t p j) (phV t p j) (jnN t))) (if psJ (pcB t p j) (phV t p j) (jnN t) = 9 then 1000000 else phV t p j (psJ (pcB t p j) (phV t p j) (jnN t))) := by
  obtain ⟨en, h3, ei⟩ := nsh_ok hJ
  obtain ⟨-, hb8, -⟩ := nbr_ok hJ
  obtain ⟨hK, ⟨w1, w2, w3⟩, hr⟩ := hR
  obtain ⟨⟨r1, r2, r3, r4⟩, r5⟩ := hr j hj
  have hbx := hG.1 j
  have hD : pD p < 256 := by
    have := hG.2.2
    have := pow_le (n := jnN t) (by omega)
    omega
  obtain ⟨-, e1, -⟩ := loopS (σ := Unit) (fun _ n => mo_plain_201 s x (nn (pD p)) c 1 (nn j) (if psJ (pcB t p j) (phV t p j) n = 9 then -4 else nn (psJ (pcB t p j) (phV t p j) n)) (if psJ (pcB t p j) (phV t p j) n = 9 then 1000000 else phV t p j (psJ (pcB t p j) (phV t p j) n)) (nn n)) (jnN t) (fun _ _ => True) (i0 := 0) (s0 := ()) (fun n _ hn _ => by
    refine ⟨(), ?_, trivial⟩
    have hb := jI_lt hn
    have eN : psJ (pcB t p j) (phV t p j) (n + 1) = if pcB t p j n = true ∧ (psJ (pcB t p j) (phV t p j) n = 9 ∨ phV t p j n < phV t p j (psJ (pcB t p j) (phV t p j) n)) then n else psJ (pcB t p j) (phV t p j) n := rfl
    have hh := hr_bd (HB_of hJ hb) hbx.1 hbx.2
    have hlt : ¬ (1000000 : Int32) ≤ phV t p j n := by
      have : (phV t p j n).toInt ≤ 237 := hh.2
      have e : (1000000 : Int32).toInt = 1000000 := rfl
      rw [Int32.le_iff_toInt_le]; omega
    generalize hQ : psJ (pcB t p j) (phV t p j) n = Q at *
    rw [eN]
    have st : ∀ x6 x7 : Int32, mo_plain_201 s x (nn (pD p)) c 1 (nn j) x6 x7 (nn n) = if (!(pD p).testBit n) = true then (if (lvB t j (jI t n) && !decide (pR p j < rlV t (jI t n))) = true then (if x7 ≤ phV t p j n then mo_plain_201 s x (nn (pD p)) c 1 (nn j) x6 x7 (nn (n + 1)) else mo_plain_201 s x (nn (pD p)) c 1 (nn j) (nn n) (phV t p j n) (nn (n + 1))) else mo_plain_201 s x (nn (pD p)) c 1 (nn j) x6 x7 (nn (n + 1))) else mo_plain_201 s x (nn (pD p)) c 1 (nn j) x6 x7 (nn (n + 1)) := fun x6 x7 => by
      rw [mo_plain_201_eq, w1, if_neg (nle hn (by omega)), if_neg (show ¬ (1 : Int32) = 0 by decide), nn_b (i := n) (n := 8) (by omega) (by decide), nn_b (i := j) (n := 3) (by omega) (by decide)]
      simp only [gd_t]
      rw [nn_n (by omega), nn_n (by omega), r1, r2, w2 n hn, hrMK hJ hK hb hbx.1 hbx.2, bI_rI, lvMK hJ hK hb hj, bI_rI, bi_if, rlMK hJ hK hb, bI_rI, r3, nn_s]
      show (if ((nn (pD p) >>> (nn n &&& 31)) &&& 1) = 0 then (if lvB t j (jI t n) = true then (if pR p j < rlV t (jI t n) then _ else (if x7 ≤ phV t p j n then _ else _)) else _) else _) = _
      cases e : (pD p).testBit n with
      | true =>
        rw [if_neg (fun w => by rw [(bis0 hD (by omega)).mp w] at e; cases e), if_neg (by decide)]
      | false =>
        rw [if_pos ((bis0 hD (by omega)).mpr e), if_pos (show (!false) = true from rfl)]
        cases lvB t j (jI t n) with
        | false => rw [if_neg (show ¬ false = true by decide), if_neg (show ¬ (false && !decide (pR p j < rlV t (jI t n))) = true from fun w => by rw [Bool.false_and] at w; cases w)]
        | true =>
          rw [if_pos (show true = true from rfl), Bool.true_and]
          by_cases w : pR p j < rlV t (jI t n)
          · rw [if_pos w, decide_eq_true w, if_neg (show ¬ (!true) = true by decide)]
          · rw [if_neg w, decide_eq_false w, if_pos (show (!false) = true from rfl)]
            rfl
    rw [st]
    have ecd : pcB t p j n = (!(pD p).testBit n && (lvB t j (jI t n) && !decide (pR p j < rlV t (jI t n)))) := rfl
    by_cases W : pcB t p j n = true ∧ (Q = 9 ∨ phV t p j n < phV t p j Q)
    · have W1 := W.1
      rw [ecd, Bool.and_eq_true] at W1
      rw [if_pos W, if_neg (show ¬ n = 9 by omega), if_neg (show ¬ n = 9 by omega), if_pos W1.1, if_pos W1.2]
      rcases W.2 with z | d
      · rw [if_pos z, if_pos z, if_neg hlt]
      · by_cases z : Q = 9
        · rw [if_pos z, if_pos z, if_neg hlt]
        · rw [if_neg z, if_neg z, if_neg (Int32.not_le.mpr d)]
    · rw [if_neg W]
      by_cases f : (!(pD p).testBit n) = true
      · rw [if_pos f]
        by_cases g : (lvB t j (jI t n) && !decide (pR p j < rlV t (jI t n))) = true
        · rw [if_pos g]
          have hcd : pcB t p j n = true := by rw [ecd, f, g]; rfl
          have z : ¬ Q = 9 := fun z => W ⟨hcd, Or.inl z⟩
          have d : ¬ phV t p j n < phV t p j Q := fun d => W ⟨hcd, Or.inr d⟩
          rw [if_neg z, if_neg z, if_pos (Int32.not_lt.mp d)]
        · rw [if_neg g]
      · rw [if_neg f]) (by omega) trivial
  have e1 : mo_plain_201 s x (nn (pD p)) c 1 (nn j) (-4) 1000000 0 = mo_plain_201 s x (nn (pD p)) c 1 (nn j) (if psJ (pcB t p j) (phV t p j) (jnN t) = 9 then -4 else nn (psJ (pcB t p j) (phV t p j) (jnN t))) (if psJ (pcB t p j) (phV t p j) (jnN t) = 9 then 1000000 else phV t p j (psJ (pcB t p j) (phV t p j) (jnN t))) (nn (jnN t)) := e1
  rw [e1, mo_plain_201_eq, w1, if_pos (yle (Nat.le_refl _) (by omega))]
def plO (t : mSt) (x : Int32) (q : plP) : Int32 := if x = 0 then pC q else nn (jnN t) - mbV (nn (pD q)) 16
theorem doM (hJ : J t) (h7 : jnN t ≤ 7) {p : plP} (hG : plG t p) (hR : plR t p s) (h1 : pJ0 t p ≠ 3) (h2 : pK0 t p ≠ 9) (x : Int32) : ∃ s', mo_plain_326 s x (nn (pD p)) (pC p) 1 (nn (pJ0 t p)) (nn (pK0 t p)) (phV t p (pJ0 t p) (pK0 t p)) = mo_plain_105 s' x (nn (pD (plS t p))) (pC (plS t p)) 1 ∧ Ch pmL [] s s' ∧ plR t (plS t p) s' := by
  obtain ⟨en, h3, ei⟩ := nsh_ok hJ
  obtain ⟨-, hb8, -⟩ := nbr_ok hJ
  obtain ⟨hK, ⟨w1, w2, w3⟩, hr⟩ := id hR
  have hj : pJ0 t p < nsh t := by
    rcases pfF_ok (pF p) (pS p) (nsh t) h3 with h | h
    · exact absurd h h1
    · exact h.1
  have hkb : pK0 t p < jnN t := by
    rcases psJ_ok (pcB t p (pJ0 t p)) (phV t p (pJ0 t p)) (jnN t) h7 with q | q
    · exact absurd q h2
    · exact q.1
  have hD : pD p < 256 := by
    have := hG.2.2
    have := pow_le (n := jnN t) (by omega)
    omega
  have eS : plS t p = (upd (pX p) (pJ0 t p) (bxV t (jI t (pK0 t p))), upd (pY p) (pJ0 t p) (byV t (jI t (pK0 t p))), upd (pR p) (pJ0 t p) (pR p (pJ0 t p) - rlV t (jI t (pK0 t p))), upd (pF p) (pJ0 t p) (pF p (pJ0 t p) + phV t p (pJ0 t p) (pK0 t p)), pS p, pD p ||| 2 ^ pK0 t p, pC p + wgV t (pK0 t p) * ((pF p (pJ0 t p) + phV t p (pJ0 t p) (pK0 t p)) - t 35 1)) := by
    unfold plS
    rw [if_neg h1, if_neg h2]
  rw [eS]
  have hb := jI_lt hkb
  obtain ⟨⟨r1, r2, r3, r4⟩, r5⟩ := hr _ hj
  have e11 := (J_B hJ).1.1
  generalize phV t p (pJ0 t p) (pK0 t p) = H at *
  generalize pK0 t p = k at *
  generalize pJ0 t p = j at *
  have x1 : inb (nn j) 3 = true := nn_b (by omega) (by decide)
  have x2 : inb (nn k) 8 = true := nn_b (by omega) (by decide)
  have x3 : inb (nn (jI t k)) 8 = true := nn_b (by omega) (by decide)
  have y1 : (nn j).toNatClampNeg = j := nn_n (by omega)
  have y2 : (nn k).toNatClampNeg = k := nn_n (by omega)
  have y3 : (nn (jI t k)).toNatClampNeg = jI t k := nn_n (by omega)
  obtain ⟨g1, hg1⟩ : ∃ g1, g1 = wr s 229 j (pF p j + H) := ⟨_, rfl⟩
  have c1 : Ch pmL [] s g1 := by rw [hg1]; exact Ch_w rfl rfl Ch_rf
  have k1 : K t g1 := K_ch c1 rfl rfl hK
  obtain ⟨g2, hg2⟩ : ∃ g2, g2 = wr g1 228 j (pR p j - rlV t (jI t k)) := ⟨_, rfl⟩
  have c2 : Ch pmL [] s g2 := by rw [hg2]; exact Ch_w rfl rfl c1
  have k2 : K t g2 := K_ch c2 rfl rfl hK
  obtain ⟨g3, hg3⟩ : ∃ g3, g3 = wr g2 226 j (bxV t (jI t k)) := ⟨_, rfl⟩
  have c3 : Ch pmL [] s g3 := by rw [hg3]; exact Ch_w rfl rfl c2
  have k3 : K t g3 := K_ch c3 rfl rfl hK
  have t2 := bxMK hJ k2 hb
  rw [show g2 209 (jI t k) = g1 209 (jI t k) by rw [hg2]; rfl, show g2 212 (jI t k) = g1 212 (jI t k) by rw [hg2]; rfl] at t2
  have t3 := byMK hJ k3 hb
  rw [show g3 209 (jI t k) = g2 209 (jI t k) by rw [hg3]; rfl, show g3 212 (jI t k) = g2 212 (jI t k) by rw [hg3]; rfl] at t3
  have z4 : g3 222 k = wgV t k := by rw [c3.1 222 rfl rfl]; exact w3 k hkb
  have z5 : g3 229 j = pF p j + H := by
    rw [hg3, hg2, hg1]
    show upd (s 229) j (pF p j + H) j = _
    exact upd_at
  have z6 : g3 183 11 = t 35 1 := by rw [K_m k3 11 rfl]; exact e11
  have cE : Ch pmL [] s (wr g3 227 j (byV t (jI t k))) := Ch_w rfl rfl c3
  refine ⟨wr g3 227 j (byV t (jI t k)), ?_, cE, K_ch cE rfl rfl hK, ⟨by rw [cE.2 56 rfl]; exact w1, fun i hi => by rw [cE.1 221 rfl rfl]; exact w2 i hi, fun i hi => by rw [cE.1 222 rfl rfl]; exact w3 i hi⟩, fun i hi => ?_⟩
  · rw [mo_plain_326_eq, if_neg (show ¬ (1 : Int32) = 0 by decide), x1, x2]
    simp only [gd_t]
    rw [y1, y2, r4, ← hg1, w2 k hkb, x3]
    simp only [gd_t]
    rw [rlMK hJ k1 hb, bI_rI, r3, ← hg2, y3, t2, bI_rI, ← hg3, t3, bI_rI, z4, z5, z6, bor hD (by omega)]
    rfl
  · obtain ⟨⟨u1, u2, u3, u4⟩, u5⟩ := hr i hi
    rw [hg3, hg2, hg1]
    show (upd (s 226) j (bxV t (jI t k)) i = upd (pX p) j (bxV t (jI t k)) i ∧ upd (s 227) j (byV t (jI t k)) i = upd (pY p) j (byV t (jI t k)) i ∧ upd (s 228) j (pR p j - rlV t (jI t k)) i = upd (pR p) j (pR p j - rlV t (jI t k)) i ∧ upd (s 229) j (pF p j + H) i = upd (pF p) j (pF p j + H) i) ∧ s 230 i = bi ((pS p).testBit i)
    unfold upd
    by_cases e : i = j
    · rw [if_pos e, if_pos e, if_pos e, if_pos e, if_pos e, if_pos e, if_pos e, if_pos e]; exact ⟨⟨rfl, rfl, rfl, rfl⟩, u5⟩
    · rw [if_neg e, if_neg e, if_neg e, if_neg e, if_neg e, if_neg e, if_neg e, if_neg e]; exact ⟨⟨u1, u2, u3, u4⟩, u5⟩
theorem goM (hJ : J t) (h7 : jnN t ≤ 7) (x : Int32) : ∀ (n : Nat) (p : plP) (s : mSt), plM t p ≤ n → plG t p → plR t p s → ∃ s', mo_plain_105 s x (nn (pD p)) (pC p) 1 = rI (plO t x (plI t n p)) s' ∧ Ch pmL [] s s' := by
  obtain ⟨en, h3, ei⟩ := nsh_ok hJ
  have em := (J_F hJ).1.1
  have stop : ∀ (n : Nat) (p : plP) (s : mSt), pJ0 t p = 3 → plR t p s → ∃ s', mo_plain_105 s x (nn (pD p)) (pC p) 1 = rI (plO t x (plI t n p)) s' ∧ Ch pmL [] s s' := fun n p s c1 hR => by
    obtain ⟨hK, ⟨w1, -, -⟩, -⟩ := id hR
    rw [plI_fix c1]
    refine ⟨s, ?_, Ch_rf⟩
    rw [mo_plain_105_eq, if_neg (show ¬ (1 : Int32) = 0 by decide), firstM hJ hR, if_pos c1, mo_plain_117_eq, K_m hK 49 rfl, em, en, if_pos (yle (Nat.le_refl _) (by omega)), if_pos rfl, mo_plain_201_eq, mo_plain_303_eq, if_pos rfl, if_pos rfl, mo_plain_326_eq, if_pos rfl, mo_plain_105_eq, if_pos rfl, bitsM, bI_rI, w1]
    unfold plO
    split
    · split <;> rfl
    · split <;> rfl
  intro n
  induction n with
  | zero =>
    intro p s hM hG hR
    exact stop 0 p s (plM_zero hJ (by omega)) hR
  | succ n ih =>
    intro p s hM hG hR
    by_cases c1 : pJ0 t p = 3
    · exact stop (n + 1) p s c1 hR
    · obtain ⟨hK, ⟨w1, w2, w3⟩, hr⟩ := id hR
      have hj : pJ0 t p < nsh t := by
        rcases pfF_ok (pF p) (pS p) (nsh t) h3 with h | h
        · exact absurd h c1
        · exact h.1
      have hG' := plG_step hJ h7 hG
      have hM' := plM_step hJ h7 c1
      have eI : plI t (n + 1) p = plI t n (plS t p) := rfl
      have eK : psJ (pcB t p (pJ0 t p)) (phV t p (pJ0 t p)) (jnN t) = pK0 t p := rfl
      rw [mo_plain_105_eq, if_neg (show ¬ (1 : Int32) = 0 by decide), firstM hJ hR, if_neg c1, mo_plain_117_eq, K_m hK 49 rfl, em, en, if_pos (yle (Nat.le_refl _) (by omega)), if_neg (show ¬ nn (pJ0 t p) = -4 from fun z => by
        have := congrArg Int32.toInt z
        rw [nn_i (by omega)] at this
        have e4 : (-4 : Int32).toInt = -4 := rfl
        omega), soonM hJ h7 hG hR hj, eK, mo_plain_303_eq, if_neg (show ¬ (1 : Int32) = 0 by decide), eI]
      by_cases c2 : pK0 t p = 9
      · have eS : plS t p = (pX p, pY p, pR p, pF p, pS p ||| 2 ^ pJ0 t p, pD p, pC p) := by
          unfold plS
          rw [if_neg c1, if_pos c2]
        have cw : Ch pmL [] s (wr s 230 (pJ0 t p) 1) := Ch_w rfl rfl Ch_rf
        rw [if_pos c2, if_pos rfl, nn_b (i := pJ0 t p) (n := 3) (by omega) (by decide), gd_t, nn_n (by omega)]
        have hR' : plR t (plS t p) (wr s 230 (pJ0 t p) 1) := by
          rw [eS]
          refine ⟨K_ch cw rfl rfl hK, ⟨w1, w2, w3⟩, fun i hi => ⟨(hr i hi).1, ?_⟩⟩
          show upd (s 230) (pJ0 t p) 1 i = bi ((pS p ||| 2 ^ pJ0 t p).testBit i)
          rw [tb_or]
          by_cases e : i = pJ0 t p
          · rw [e, upd_at, decide_eq_true rfl, Bool.or_true]; rfl
          · rw [upd_ne e, decide_eq_false (fun z => e z.symm), Bool.or_false]; exact (hr i hi).2
        have e1 : nn (pD p) = nn (pD (plS t p)) := by rw [eS]; rfl
        have e2 : pC p = pC (plS t p) := by rw [eS]; rfl
        rw [e1, e2]
        obtain ⟨s', q1, q2⟩ := ih (plS t p) (wr s 230 (pJ0 t p) 1) (by omega) hG' hR'
        exact ⟨s', q1, Ch_tr cw q2⟩
      · have hk : pK0 t p < jnN t := by
          rcases psJ_ok (pcB t p (pJ0 t p)) (phV t p (pJ0 t p)) (jnN t) h7 with q | q
          · exact absurd q c2
          · exact q.1
        obtain ⟨s1, d1, d2, d3⟩ := doM hJ h7 hG hR c1 c2 x
        rw [if_neg c2, if_neg c2, if_neg (show ¬ nn (pK0 t p) = -4 from fun z => by
          have := congrArg Int32.toInt z
          rw [nn_i (by omega)] at this
          have e4 : (-4 : Int32).toInt = -4 := rfl
          omega), d1]
        obtain ⟨s', q1, q2⟩ := ih (plS t p) s1 (by omega) hG' d3
        exact ⟨s', q1, Ch_tr d2 q2⟩
theorem plainM (hJ : J t) (h7 : jnN t ≤ 7) (hK : K t s) (w : s 183 56 = nn (jnN t) ∧ (∀ i, i < jnN t → s 221 i = nn (jI t i)) ∧ ∀ i, i < jnN t → s 222 i = wgV t i) (x : Int32) : ∃ s', mo_plain_30 s x 0 = rI (plO t x (plI t 10 (plZ t))) s' ∧ Ch pmL [] s s' := by
  obtain ⟨en, h3, ei⟩ := nsh_ok hJ
  obtain ⟨⟨em, -⟩, q1, q2, q3, q4, q5⟩ := id (J_F hJ)
  obtain ⟨s1, e1, e2, e3⟩ := loopS (σ := mSt) (fun s1 j => mo_plain_30 s1 x (nn j)) (nsh t) (fun j s1 => Ch pmL [] s s1 ∧ ∀ i, i < j → (s1 226 i = t 130 i ∧ s1 227 i = t 131 i ∧ s1 228 i = t 132 i ∧ s1 229 i = bgV t i) ∧ s1 230 i = 0) (i0 := 0) (s0 := s) (fun j s1 hj hI => by
    show ∃ s', mo_plain_30 s1 x (nn j) = mo_plain_30 s' x (nn (j + 1)) ∧ _
    obtain ⟨i1, i2⟩ := hI
    have hK1 : K t s1 := K_ch i1 rfl rfl hK
    have c1 : Ch pmL [] s (wr (wr (wr s1 226 j (t 130 j)) 227 j (t 131 j)) 228 j (t 132 j)) := Ch_w rfl rfl (Ch_w rfl rfl (Ch_w rfl rfl i1))
    refine ⟨wr (wr (wr (wr (wr s1 226 j (t 130 j)) 227 j (t 131 j)) 228 j (t 132 j)) 229 j (bgV t j)) 230 j 0, ?_, Ch_w rfl rfl (Ch_w rfl rfl c1), fun i hi => ?_⟩
    · rw [mo_plain_30_eq s1 x (nn j), K_m hK1 49 rfl, em, en, if_neg (nle hj (by omega)), nn_b (i := j) (n := 3) (by omega) (by decide)]
      simp only [gd_t]
      rw [nn_n (by omega), K_at hK1 216 rfl, K_at hK1 217 rfl, K_at hK1 218 rfl, q1, q2, q3, bgMK hJ (K_ch c1 rfl rfl hK) (by omega), bI_rI, nn_s]
    · show (upd (s1 226) j (t 130 j) i = _ ∧ upd (s1 227) j (t 131 j) i = _ ∧ upd (s1 228) j (t 132 j) i = _ ∧ upd (s1 229) j (bgV t j) i = _) ∧ upd (s1 230) j 0 i = 0
      by_cases e : i = j
      · rw [e, upd_at, upd_at, upd_at, upd_at, upd_at]; exact ⟨⟨rfl, rfl, rfl, rfl⟩, rfl⟩
      · rw [upd_ne e, upd_ne e, upd_ne e, upd_ne e, upd_ne e]; exact i2 i (by omega)) (by omega) ⟨Ch_rf, fun i hi => by omega⟩
  have e1 : mo_plain_30 s x 0 = mo_plain_30 s1 x (nn (nsh t)) := e1
  have K1 : K t s1 := K_ch e2 rfl rfl hK
  have hR : plR t (plZ t) s1 := by
    refine ⟨K1, ⟨by rw [e2.2 56 rfl]; exact w.1, fun i hi => by rw [e2.1 221 rfl rfl]; exact w.2.1 i hi, fun i hi => by rw [e2.1 222 rfl rfl]; exact w.2.2 i hi⟩, fun j hj => ?_⟩
    obtain ⟨⟨a1, a2, a3, a4⟩, a5⟩ := e3 j hj
    refine ⟨?_, ?_⟩
    · show s1 226 j = (if j < nsh t then t 130 j else 0) ∧ s1 227 j = (if j < nsh t then t 131 j else 0) ∧ s1 228 j = t 132 j ∧ s1 229 j = bgV t j
      rw [if_pos hj, if_pos hj]; exact ⟨a1, a2, a3, a4⟩
    · rw [a5]
      show (0 : Int32) = bi (Nat.testBit 0 j)
      rw [Nat.zero_testBit]; rfl
  obtain ⟨s2, f1, f2⟩ := goM hJ h7 x 10 (plZ t) s1 (plZ_M hJ h7) (plZ_G hJ) hR
  have f1 : mo_plain_105 s1 x 0 0 1 = _ := f1
  refine ⟨s2, ?_, Ch_tr e2 f2⟩
  rw [e1, mo_plain_30_eq, K_m K1 49 rfl, em, en, if_pos (yle (Nat.le_refl _) (by omega)), f1]
end PL3
theorem c_plain : CS1 J LL_plain mo_plain := by
  intro t x hJ
  by_cases h1 : wb x 0 1 = 0
  · exact ⟨-1, t, t, by rw [LL_plain_eq, LLw, bI_rI, if_pos h1], by rw [mo_plain_eq, mw_0_1, bI_rI, if_pos h1], hJ⟩
  obtain ⟨s1, a1, a2, a3⟩ := gatherC hJ K_rf
  have K1 : K t s1 := K_ch a2 rfl rfl K_rf
  by_cases h7 : jnN t ≤ 7
  · rw [decide_eq_true h7] at a1
    obtain ⟨b1, b2⟩ := a3 h7
    obtain ⟨s2, c1, c2, c3⟩ := weighC hJ K1 h7 b1 b2
    have K2 : K t s2 := K_ch c2 rfl rfl K1
    obtain ⟨s3, d1, d2, d3, d4⟩ := plainC hJ h7 K2 ⟨by rw [c2.1 135 rfl rfl]; exact b1, fun i hi => by rw [c2.1 136 rfl rfl]; exact b2 i hi, c3⟩
    have K3 : K t s3 := K_ch d2 rfl rfl K2
    obtain ⟨s4, e1, e2, e3⟩ := listedM hJ K3
    have K4 : K t s4 := K_ch e2 rfl rfl K3
    obtain ⟨s5, f1, f2⟩ := plainM hJ h7 K4 e3 x
    have K5 : K t s5 := K_ch f2 rfl rfl K4
    obtain ⟨-, -, -, g1, g2⟩ := d3
    refine ⟨plO t x (plI t 10 (plZ t)), s3, s5, ?_, ?_, K_J K5 hJ⟩
    · rw [LL_plain_eq, LLw, bI_rI, if_neg h1, a1, bI_rI, if_neg (show ¬ bi true = 0 by decide), c1, bV_rV, d1, bV_rV, me_plainLeft_eq, g1, g2, bitCountC, bI_rI, bI_rI]
      have hD := d4.2.2
      have h128 : pD (plI t 10 (plZ t)) < 128 := by
        have : 2 ^ jnN t ≤ 2 ^ 7 := Nat.pow_le_pow_right (by omega) h7
        omega
      have := bc_left ⟨jnN t, by omega⟩ ⟨pD (plI t 10 (plZ t)), h128⟩ hD
      rw [this]
      unfold plO
      split <;> rfl
    · rw [mo_plain_eq, mw_0_1, bI_rI, if_neg h1, e1, bV_rV, e3.1, if_pos (show nn (jnN t) ≤ 7 from yle (j := 7) h7 (by omega)), f1]
  · rw [decide_eq_false h7] at a1
    obtain ⟨s4, e1, e2, e3⟩ := listedM hJ K1
    have K4 : K t s4 := K_ch e2 rfl rfl K1
    have h8 : jnN t ≤ 8 := Nat.le_trans (ctN_le _ _) (nbr_ok hJ).2.1
    refine ⟨-2, s1, s4, ?_, ?_, K_J K4 hJ⟩
    · rw [LL_plain_eq, LLw, bI_rI, if_neg h1, a1, bI_rI, if_pos bi_f]
    · rw [mo_plain_eq, mw_0_1, bI_rI, if_neg h1, e1, bV_rV, e3.1, if_neg (show ¬ nn (jnN t) ≤ 7 from nle (j := 7) (by omega) (by omega))]
