def fwB (s : mSt) (L e : Int32) (w : Bool) (t : Nat) : Bool := if w = true then woB s L e t else !woB s L e t
/-- what of a rent is due -/
def rvV (s : mSt) (h e : Int32) (w : Bool) (k : Nat) : Int32 := if s 195 (6 * k) = h then nn (ctN (fwB s (s 195 (6 * k + 1)) e w) (max (s 195 (6 * k + 3)).toInt.toNat (min (s 195 (6 * k + 4)).toInt.toNat (s 35 1).toInt.toNat)) - ctN (fwB s (s 195 (6 * k + 1)) e w) (s 195 (6 * k + 3)).toInt.toNat) * s 195 (6 * k + 5) else 0
def csV (s : mSt) (h e : Int32) (w : Bool) : Nat → Int32
  | 0 => 0
  | n + 1 => csV s h e w n + rvV s h e w n
theorem rent_ok {s : mSt} (hJ : J s) {k : Nat} (hk : k < nrt s) : k < 8 ∧ s 195 (6 * k + 3) = nn (s 195 (6 * k + 3)).toInt.toNat ∧ (s 195 (6 * k + 3)).toInt.toNat ≤ 998 ∧ s 195 (6 * k + 4) = nn (s 195 (6 * k + 4)).toInt.toNat ∧ (s 195 (6 * k + 4)).toInt.toNat ≤ 999 := by
  obtain ⟨en, h8, ei⟩ := nrt_ok hJ
  obtain ⟨-, -, c3, c4, -⟩ := (J_U hJ).2 k (by omega)
  have := c3.2
  have := c4.2
  exact ⟨by omega, nn_x c3.1, by omega, nn_x c4.1, by omega⟩
theorem hour_ok {s : mSt} (hJ : J s) : s 35 1 = nn (s 35 1).toInt.toNat ∧ (s 35 1).toInt.toNat ≤ 999 := by
  have c := (J_B hJ).1.2
  have := c.2
  exact ⟨nn_x c.1, by omega⟩
theorem owC {s : mSt} (hJ : J s) (h e : Int32) (w : Bool) : LL_coinsOf s h e (bi w) = rI (csV s h e w (nrt s)) s := by
  obtain ⟨en, h8, ei⟩ := nrt_ok hJ
  obtain ⟨eh, hh⟩ := hour_ok hJ
  obtain ⟨-, -, e3⟩ := J_R hJ
  rw [LL_coinsOf_eq]
  obtain ⟨c, e1, e2⟩ := loopS (σ := Int32) (fun c k => LL_coinsOf_6 s h e (bi w) c (nn k)) (nrt s) (fun k c => c = csV s h e w k) (i0 := 0) (s0 := 0) (fun k c hk hI => by
    show ∃ s', LL_coinsOf_6 s h e (bi w) c (nn k) = LL_coinsOf_6 s h e (bi w) s' (nn (k + 1)) ∧ _
    obtain ⟨r1, r2, r3, r4, r5⟩ := rent_ok hJ hk
    have hk' : (k : Int) < (s 1 2).toInt := by omega
    refine ⟨c + rvV s h e w k, ?_, by rw [hI]; rfl⟩
    have k105 : ∀ t, LL_coinsOf_105 s h e (bi w) c (nn k) k t = LL_coinsOf_6 s h e (bi w) (c + t * s 195 (6 * k + 5)) (nn (k + 1)) := fun t => by
      rw [LL_coinsOf_105_eq, blt_t r1, gd_t, show inb 5 6 = true from rfl, gd_t, nn_s, e3 k 5 r1 hk' (by decide)]
    rw [LL_coinsOf_6_eq s h e (bi w) c (nn k), en, if_neg (nle hk (by omega)), nn_b (i := k) (n := 8) r1 (by decide), nn_n (by omega), blt_t r1, show inb 4 6 = true from rfl, show inb 0 6 = true from rfl, show inb 3 6 = true from rfl, show inb 1 6 = true from rfl]
    simp only [gd_t]
    rw [show s (4 + k) 0 = s 195 (6 * k) from e3 k 0 r1 hk' (by decide), e3 k 1 r1 hk' (by decide), e3 k 3 r1 hk' (by decide), e3 k 4 r1 hk' (by decide), nn_s]
    unfold rvV
    generalize hF : (s 195 (6 * k + 3)).toInt.toNat = F at *
    generalize hT : (s 195 (6 * k + 4)).toInt.toNat = T at *
    generalize hH : (s 35 1).toInt.toNat = H at *
    generalize s 195 (6 * k + 1) = L
    by_cases c1 : s 195 (6 * k) = h
    · rw [if_pos c1, if_pos c1, r2, r4, eh]
      have m1 : jMin (nn T) (nn H) = nn (min T H) := by
        unfold jMin
        by_cases q : H < T
        · rw [if_pos (ylt q (by omega)), Nat.min_eq_right (by omega)]
        · rw [if_neg (nlt (by omega) (by omega)), Nat.min_eq_left (by omega)]
      rw [m1]
      by_cases c2 : F < min T H
      · have hm : max F (min T H) = min T H := by omega
        rw [if_pos (ylt c2 (by omega)), dhC hJ L e c2 (by omega), bI_rI, hm]
        have g1 := (ctN_ge (p := woB s L e) (Nat.le_of_lt c2))
        cases w with
        | true =>
          rw [if_neg (show ¬ bi true = 0 by decide), k105]
          rfl
        | false =>
          have q1 := ctN_not (woB s L e) (min T H)
          have q2 := ctN_not (woB s L e) F
          rw [if_pos bi_f, e3 k 3 r1 hk' (by decide), r2, k105, nn_d (by omega), nn_d (by omega)]
          have : fwB s L e false = fun t => !woB s L e t := rfl
          rw [this]
          congr 4
          omega
      · have hm : max F (min T H) = F := by omega
        rw [if_neg (nlt (by omega) (by omega)), hm, Nat.sub_self, show nn 0 = 0 from rfl, Int32.zero_mul, Int32.add_zero]
    · rw [if_neg c1, if_neg c1, Int32.add_zero]) (by omega) rfl
  have e1 : LL_coinsOf_6 s h e (bi w) 0 (nn 0) = LL_coinsOf_6 s h e (bi w) c (nn (nrt s)) := e1
  refine e1.trans ?_
  rw [LL_coinsOf_6_eq, en, if_pos (yle (Nat.le_refl _) (by omega)), e2]
theorem owM {s : mSt} (hJ : J s) (h e : Int32) (w : Bool) : mo_coins s h e (bi w) = rI (csV s h e w (nrt s)) s := by
  obtain ⟨en, h8, ei⟩ := nrt_ok hJ
  obtain ⟨eh, hh⟩ := hour_ok hJ
  have e11 := (J_B hJ).1.1
  have e15 := (J_R hJ).1.1
  rw [mo_coins_eq]
  obtain ⟨c, e1, e2⟩ := loopS (σ := Int32) (fun c k => mo_coins_6 s h e (bi w) c (nn k)) (nrt s) (fun k c => c = csV s h e w k) (i0 := 0) (s0 := 0) (fun k c hk hI => by
    show ∃ s', mo_coins_6 s h e (bi w) c (nn k) = mo_coins_6 s h e (bi w) s' (nn (k + 1)) ∧ _
    obtain ⟨r1, r2, r3, r4, r5⟩ := rent_ok hJ hk
    refine ⟨c + rvV s h e w k, ?_, by rw [hI]; rfl⟩
    have i6 : (6 : Int32) * nn k = nn (6 * k) := nn_m 6 k
    have i1 : nn (6 * k) + 1 = nn (6 * k + 1) := nn_s _
    have i3 : nn (6 * k) + 3 = nn (6 * k + 3) := nn_a (6 * k) 3
    have i4 : nn (6 * k) + 4 = nn (6 * k + 4) := nn_a (6 * k) 4
    have i5 : nn (6 * k) + 5 = nn (6 * k + 5) := nn_a (6 * k) 5
    have k29 : ∀ (v : Int32) (t : Nat), t < 1000 → mo_coins_29 s h e (bi w) v (nn k) (nn t) = if t < min (s 195 (6 * k + 4)).toInt.toNat (s 35 1).toInt.toNat ∧ s 195 (6 * k) = h then mo_coins_29 s h e (bi w) (v + if fwB s (s 195 (6 * k + 1)) e w t = true then s 195 (6 * k + 5) else 0) (nn k) (nn (t + 1)) else mo_coins_6 s h e (bi w) v (nn (k + 1)) := fun v t ht => by
      rw [mo_coins_29_eq s h e (bi w) v (nn k) (nn t), i6, i1, i4, i5, nn_b (i := 6 * k + 4) (n := 48) (by omega) (by decide), nn_b (i := 6 * k) (n := 48) (by omega) (by decide), nn_b (i := 6 * k + 1) (n := 48) (by omega) (by decide), nn_b (i := 6 * k + 5) (n := 48) (by omega) (by decide)]
      simp only [gd_t]
      rw [nn_n (by omega), nn_n (by omega), nn_n (by omega), nn_n (by omega), e11, woM hJ _ e ht, bI_rI, nn_s, nn_s]
      generalize hT : (s 195 (6 * k + 4)).toInt.toNat = T at *
      generalize hH : (s 35 1).toInt.toNat = H at *
      rw [r4, eh]
      by_cases c1 : t < T
      · rw [if_neg (nle c1 (by omega))]
        by_cases c2 : t < H
        · rw [if_neg (nle c2 (by omega))]
          by_cases c3 : s 195 (6 * k) = h
          · rw [if_pos c3, if_pos (show t < min T H ∧ s 195 (6 * k) = h from ⟨by omega, c3⟩)]
            unfold fwB
            cases w <;> cases woB s (s 195 (6 * k + 1)) e t <;> rfl
          · rw [if_neg c3, if_neg (fun q => c3 q.2)]
        · rw [if_pos (yle (by omega) (by omega)), if_neg (fun q => by omega)]
      · rw [if_pos (yle (by omega) (by omega)), if_neg (fun q => by omega)]
    rw [mo_coins_6_eq s h e (bi w) c (nn k), e15, en, if_neg (nle hk (by omega)), i6, i3, nn_b (i := 6 * k + 3) (n := 48) (by omega) (by decide), gd_t, nn_n (by omega)]
    unfold rvV
    generalize hF : (s 195 (6 * k + 3)).toInt.toNat = F at *
    generalize hT : (s 195 (6 * k + 4)).toInt.toNat = T at *
    generalize hH : (s 35 1).toInt.toNat = H at *
    generalize s 195 (6 * k + 1) = L at *
    generalize s 195 (6 * k + 5) = C at *
    rw [r2]
    by_cases c1 : s 195 (6 * k) = h
    · rw [if_pos c1]
      obtain ⟨v, f1, f2⟩ := loopS (σ := Int32) (fun v t => mo_coins_29 s h e (bi w) v (nn k) (nn t)) (max F (min T H)) (fun t v => F ≤ t ∧ v = c + nn (ctN (fwB s L e w) t - ctN (fwB s L e w) F) * C) (i0 := F) (s0 := c) (fun t v ht hv => by
        show ∃ s', mo_coins_29 s h e (bi w) v (nn k) (nn t) = mo_coins_29 s h e (bi w) s' (nn k) (nn (t + 1)) ∧ _ ∧ s' = _
        obtain ⟨hv0, hv⟩ := hv
        refine ⟨_, by rw [k29 v t (by omega), if_pos ⟨by omega, c1⟩], by omega, ?_⟩
        have g := (ctN_ge (p := fwB s L e w) hv0).1
        have : ctN (fwB s L e w) (t + 1) = ctN (fwB s L e w) t + (if fwB s L e w t = true then 1 else 0) := rfl
        rw [this, hv]
        cases fwB s L e w t with
        | true =>
          rw [if_pos rfl, if_pos rfl, show ctN (fwB s L e w) t + 1 - ctN (fwB s L e w) F = (ctN (fwB s L e w) t - ctN (fwB s L e w) F) + 1 by omega, ← nn_s, Int32.succ_mul, Int32.add_assoc]
        | false =>
          rw [if_neg (by decide), if_neg (by decide), Int32.add_zero, Nat.add_zero]) (by omega) ⟨Nat.le_refl _, by rw [Nat.sub_self, show nn 0 = 0 from rfl, Int32.zero_mul, Int32.add_zero]⟩
      have f1 : mo_coins_29 s h e (bi w) c (nn k) (nn F) = mo_coins_29 s h e (bi w) v (nn k) (nn (max F (min T H))) := f1
      rw [f1, k29 v _ (by omega), if_neg (fun q => by omega), f2.2]
    · rw [k29 c F (by omega), if_neg (fun q => c1 q.2), if_neg c1, Int32.add_zero]) (by omega) rfl
  have e1 : mo_coins_6 s h e (bi w) 0 (nn 0) = mo_coins_6 s h e (bi w) c (nn (nrt s)) := e1
  refine e1.trans ?_
  rw [mo_coins_6_eq, e15, en, if_pos (yle (Nat.le_refl _) (by omega)), e2]
theorem c_owed : CS2 J LL_owed mo_owed := by
  intro s h e hJ
  by_cases h1 : wb h 0 5 = 0
  · exact ⟨-1, s, s, by rw [LL_owed_eq, LLw, bI_rI, if_pos h1], by rw [mo_owed_eq, mw_0_5, bI_rI, if_pos h1], hJ⟩
  by_cases h2 : wb e 0 999 = 0
  · exact ⟨-1, s, s, by rw [LL_owed_eq, LLw, bI_rI, if_neg h1, LLw, bI_rI, if_pos h2], by rw [mo_owed_eq, mw_0_5, bI_rI, if_neg h1, mw_0_999, bI_rI, if_pos h2], hJ⟩
  exact ⟨_, s, s, by rw [LL_owed_eq, LLw, bI_rI, if_neg h1, LLw, bI_rI, if_neg h2, show (1 : Int32) = bi true from rfl, owC hJ, bI_rI], by rw [mo_owed_eq, mw_0_5, bI_rI, if_neg h1, mw_0_999, bI_rI, if_neg h2, show (1 : Int32) = bi true from rfl, owM hJ, bI_rI], hJ⟩
theorem c_paid : CS2 J LL_paid mo_paid := by
  intro s h e hJ
  by_cases h1 : wb h 0 5 = 0
  · exact ⟨-1, s, s, by rw [LL_paid_eq, LLw, bI_rI, if_pos h1], by rw [mo_paid_eq, mw_0_5, bI_rI, if_pos h1], hJ⟩
  by_cases h2 : wb e 0 999 = 0
  · exact ⟨-1, s, s, by rw [LL_paid_eq, LLw, bI_rI, if_neg h1, LLw, bI_rI, if_pos h2], by rw [mo_paid_eq, mw_0_5, bI_rI, if_neg h1, mw_0_999, bI_rI, if_pos h2], hJ⟩
  have a := owC hJ h e false
  have b := owM hJ h e false
  rw [bi_f] at a b
  exact ⟨_, s, s, by rw [LL_paid_eq, LLw, bI_rI, if_neg h1, LLw, bI_rI, if_neg h2, a, bI_rI], by rw [mo_paid_eq, mw_0_5, bI_rI, if_neg h1, mw_0_999, bI_rI, if_neg h2, b, bI_rI], hJ⟩
