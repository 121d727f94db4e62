def bit (b : Nat) : Int32 := 1 <<< (nn b &&& 31)
def qkB (s : mSt) (x y r h : Int32) (b : Nat) : Bool := !decide (wb (s 37 b) h (h + 2) = 0) && nrB s b x y r
def qkV (s : mSt) (x y r h : Int32) : Nat → Int32
  | 0 => 0
  | n + 1 => if qkB s x y r h n = true then qkV s x y r h n ||| bit n else qkV s x y r h n
theorem quakeC {s : mSt} (hJ : J s) {x y r h : Int32} (hx : bd x 0 99) (hy : bd y 0 99) (hr : bd r 0 99) : LL_quake_52 s x y r h 0 0 = rI (qkV s x y r h (nbr s)) s := by
  obtain ⟨en, h8, ei⟩ := nbr_ok hJ
  obtain ⟨c, e1, e2⟩ := loopS (σ := Int32) (fun c i => LL_quake_52 s x y r h c (nn i)) (nbr s) (fun i c => c = qkV s x y r h i) (i0 := 0) (s0 := 0) (fun i c hi hI => by
    show ∃ s', LL_quake_52 s x y r h c (nn i) = LL_quake_52 s x y r h s' (nn (i + 1)) ∧ s' = _
    have H := HB_of hJ hi
    obtain ⟨v, k1, k2⟩ := ffC H (r := r) hx hy (by have := hr.2; omega)
    refine ⟨qkV s x y r h (i + 1), ?_, rfl⟩
    rw [LL_quake_52_eq s x y r h c (nn i), en, if_neg (nle hi (by omega)), nn_b (i := i) (n := 8) (by omega) (by decide), gd_t, nn_n (by omega), LLw, bI_rI, k1, bI_rI, nn_s, hI]
    show _ = LL_quake_52 s x y r h (if qkB s x y r h i = true then qkV s x y r h i ||| bit i else qkV s x y r h i) (nn (i + 1))
    unfold qkB
    by_cases c1 : wb (s 37 i) h (h + 2) = 0
    · rw [if_pos c1, decide_eq_true c1, Bool.not_true, Bool.false_and, if_neg (by decide)]
    · rw [if_neg c1, decide_eq_false c1]
      cases e : nrB s i x y r with
      | false => rw [if_pos (k2.mpr e), if_neg (by decide)]
      | true => rw [if_neg (fun q => by rw [k2.mp q] at e; cases e), if_pos (show (!false && true) = true from rfl)]; rfl) (by omega) rfl
  have e1 : LL_quake_52 s x y r h 0 (nn 0) = LL_quake_52 s x y r h c (nn (nbr s)) := e1
  refine e1.trans ?_
  rw [LL_quake_52_eq, en, if_pos (yle (Nat.le_refl _) (by omega)), e2]
theorem exB_pre {p : Nat → Bool} {n : Nat} (h : ∀ i, i < n → p i = false) : ∀ m, m ≤ n → exB p m = false := fun m hm => exB_f (fun i hi => h i (by omega))
theorem quakeM {s : mSt} (hJ : J s) {x y r h : Int32} (hx : bd x 0 99) (hy : bd y 0 99) (hh : bd h 0 999) : mo_quake_57 s x y r h 0 0 = rI (qkV s x y r h (nbr s)) s := by
  obtain ⟨en, h8, ei⟩ := nbr_ok hJ
  have eb := (J_B hJ).2.1
  obtain ⟨⟨q1, q2, q3, q4, q5⟩, -⟩ := id (J_Y hJ)
  obtain ⟨c, e1, e2⟩ := loopS (σ := Int32) (fun c i => mo_quake_57 s x y r h c (nn i)) (nbr s) (fun i c => c = qkV s x y r h i) (i0 := 0) (s0 := 0) (fun i c hi hI => by
    show ∃ s', mo_quake_57 s x y r h c (nn i) = mo_quake_57 s x y r h s' (nn (i + 1)) ∧ s' = _
    have H := HB_of hJ hi
    obtain ⟨elo, ehi, e3, e4, e5, e6, e7⟩ := lohi H
    obtain ⟨g1, g2, g3, g4, -⟩ := id H
    refine ⟨qkV s x y r h (i + 1), ?_, rfl⟩
    rw [mo_quake_57_eq s x y r h c (nn i), eb, en, if_neg (nle hi (by omega)), nn_b (i := i) (n := 8) (by omega) (by decide), gd_t, nn_n (by omega), hI, q4, elo]
    show _ = mo_quake_57 s x y r h (if qkB s x y r h i = true then qkV s x y r h i ||| bit i else qkV s x y r h i) (nn (i + 1))
    generalize qkV s x y r h i = w
    have step : ∀ (u : Int32) (p : Nat), p ≤ hiN s i → mo_quake_75 s x y r h u (nn i) (nn p) = if wb (s 37 i) h (h + 2) = 0 then mo_quake_57 s x y r h u (nn (i + 1)) else mo_quake_75 s x y r h (if r < dsV s i p x y then u ||| 0 else u ||| bit i) (nn i) (nn (p + 1)) := fun u p hp => by
      have ip := nn_i (i := p) (by omega)
      rw [mo_quake_75_eq s x y r h u (nn i) (nn p), nn_b (i := i) (n := 8) (by omega) (by decide), gd_t, nn_n (by omega), q5, ehi, if_neg (nlt (by omega) (by omega)), gd_t, q2, mow, bI_rI, nn_s, gd_t, q1, g3, pxM g2 g4 (by omega), bI_rI, pl1, bI_rI, gd_t, q1, g3, pyM g2 g4 (by omega) (by omega), bI_rI, pl1, bI_rI, nn_s]
      by_cases c1 : wb (s 37 i) h (h + 2) = 0
      · rw [if_pos c1, if_pos c1]
      · rw [if_neg c1, if_neg c1]
        show (if r < dsV s i p x y then _ else _) = _
        split <;> rfl
    have last : ∀ u, mo_quake_75 s x y r h u (nn i) (nn (hiN s i + 1)) = mo_quake_57 s x y r h u (nn (i + 1)) := fun u => by
      rw [mo_quake_75_eq, nn_b (i := i) (n := 8) (by omega) (by decide), gd_t, nn_n (by omega), q5, ehi, if_pos (ylt (by omega) (by omega)), nn_s]
    by_cases c1 : wb (s 37 i) h (h + 2) = 0
    · rw [step w (loN s i) e3, if_pos c1]
      unfold qkB
      rw [decide_eq_true c1, Bool.not_true, Bool.false_and, if_neg (by decide)]
    · obtain ⟨u, f1, f2⟩ := loopS (σ := Int32) (fun u p => mo_quake_75 s x y r h u (nn i) (nn p)) (hiN s i + 1) (fun p u => loN s i ≤ p ∧ u = if exB (nrP s i x y r) p = true then w ||| bit i else w) (i0 := loN s i) (s0 := w) (fun p u hp hu => by
        show ∃ s', mo_quake_75 s x y r h u (nn i) (nn p) = mo_quake_75 s x y r h s' (nn i) (nn (p + 1)) ∧ _ ∧ s' = _
        obtain ⟨hp0, hu⟩ := hu
        refine ⟨_, by rw [step u p (by omega), if_neg c1], by omega, ?_⟩
        show _ = if (exB (nrP s i x y r) p || (decide (loN s i ≤ p) && !decide (r < dsV s i p x y))) = true then w ||| bit i else w
        rw [hu, decide_eq_true hp0, Bool.true_and]
        cases exB (nrP s i x y r) p with
        | true =>
          rw [if_pos rfl, Bool.true_or, if_pos rfl, Int32.or_zero, Int32.or_assoc, Int32.or_self]
          split <;> rfl
        | false =>
          rw [if_neg (show ¬ false = true by decide), Bool.false_or, Int32.or_zero]
          by_cases c2 : r < dsV s i p x y
          · rw [if_pos c2, decide_eq_true c2, if_neg (by decide)]
          · rw [if_neg c2, decide_eq_false c2, if_pos (show (!false) = true from rfl)]) (by omega) (by
        refine ⟨Nat.le_refl _, ?_⟩
        rw [exB_f, if_neg (by decide)]
        intro p hp
        unfold nrP
        rw [decide_eq_false (by omega), Bool.false_and])
      have f1 : mo_quake_75 s x y r h w (nn i) (nn (loN s i)) = mo_quake_75 s x y r h u (nn i) (nn (hiN s i + 1)) := f1
      rw [f1, last, f2.2]
      unfold qkB
      rw [decide_eq_false c1]
      rfl) (by omega) rfl
  have e1 : mo_quake_57 s x y r h 0 (nn 0) = mo_quake_57 s x y r h c (nn (nbr s)) := e1
  refine e1.trans ?_
  rw [mo_quake_57_eq, eb, en, if_pos (yle (Nat.le_refl _) (by omega)), e2]
theorem c_quake : CS4 J LL_quake mo_quake := by
  intro s x y r h hJ
  by_cases h1 : wb x 0 99 = 0
  · exact ⟨-1, s, s, by rw [LL_quake_eq, LLw, bI_rI, if_pos h1], by rw [mo_quake_eq, mw_0_99, bI_rI, if_pos h1], hJ⟩
  by_cases h2 : wb y 0 99 = 0
  · exact ⟨-1, s, s, by rw [LL_quake_eq, LLw, bI_rI, if_neg h1, LLw, bI_rI, if_pos h2], by rw [mo_quake_eq, mw_0_99, bI_rI, if_neg h1, mw_0_99, bI_rI, if_pos h2], hJ⟩
  by_cases h3 : wb r 0 99 = 0
  · exact ⟨-1, s, s, by rw [LL_quake_eq, LLw, bI_rI, if_neg h1, LLw, bI_rI, if_neg h2, LLw, bI_rI, if_pos h3], by rw [mo_quake_eq, mw_0_99, bI_rI, if_neg h1, mw_0_99, bI_rI, if_neg h2, mw_0_99, bI_rI, if_pos h3], hJ⟩
  by_cases h4 : wb h 0 999 = 0
  · exact ⟨-1, s, s, by rw [LL_quake_eq, LLw, bI_rI, if_neg h1, LLw, bI_rI, if_neg h2, LLw, bI_rI, if_neg h3, LLw, bI_rI, if_pos h4], by rw [mo_quake_eq, mw_0_99, bI_rI, if_neg h1, mw_0_99, bI_rI, if_neg h2, mw_0_99, bI_rI, if_neg h3, mw_0_999, bI_rI, if_pos h4], hJ⟩
  have w1 := wb_n h1
  have w2 := wb_n h2
  have w3 := wb_n h3
  have w4 := wb_n h4
  have r0 : (0 : Int32).toInt = 0 := rfl
  have r99 : (99 : Int32).toInt = 99 := rfl
  have r999 : (999 : Int32).toInt = 999 := rfl
  refine ⟨_, s, s, by rw [LL_quake_eq, LLw, bI_rI, if_neg h1, LLw, bI_rI, if_neg h2, LLw, bI_rI, if_neg h3, LLw, bI_rI, if_neg h4, quakeC hJ ⟨by omega, by omega⟩ ⟨by omega, by omega⟩ ⟨by omega, by omega⟩], ?_, hJ⟩
  rw [mo_quake_eq, mw_0_99, bI_rI, if_neg h1, mw_0_99, bI_rI, if_neg h2, mw_0_99, bI_rI, if_neg h3, mw_0_999, bI_rI, if_neg h4, quakeM hJ ⟨by omega, by omega⟩ ⟨by omega, by omega⟩ ⟨by omega, by omega⟩]
/-! shared -/
def shP (s : mSt) (b c : Nat) (r : Int32) (p : Nat) : Bool := decide (loN s b ≤ p) && nrB s c (pxV s (lnB s b) (nn p)) (pyV s (lnB s b) (nn p)) (2 * r)
def shB (s : mSt) (b c : Nat) (r : Int32) : Bool := decide (jAbs (s 37 b - s 37 c) ≤ 2) && exB (shP s b c r) (hiN s b + 1)
theorem twice {r : Int32} (hr : bd r 0 99) : (2 * r).toInt = 2 * r.toInt := by
  obtain ⟨h1, h2⟩ := hr
  have e2 : (2 : Int32).toInt = 2 := rfl
  rw [Int32.toInt_mul, e2, Int.bmod_def]
  split <;> omega
theorem shareC {s : mSt} (hJ : J s) {b c : Nat} (hb : b < nbr s) (hc : c < nbr s) {r : Int32} (hr : bd r 0 99) : br_couldShare s (nn b) (nn c) r = rI (bi (shB s b c r)) s := by
  have H := HB_of hJ hb
  have G := HB_of hJ hc
  obtain ⟨elo, ehi, e3, e4, e5, e6, e7⟩ := lohi H
  obtain ⟨g1, g2, g3, g4, -⟩ := id H
  have c8 := G.1
  have h2r := twice hr
  rw [br_couldShare_eq, nn_b g1 (by decide), nn_b c8 (by decide), gd_t, gd_t, gd_t, nn_n (by omega), nn_n (by omega), elo]
  unfold shB
  by_cases c1 : jAbs (s 37 b - s 37 c) ≤ 2
  · rw [if_pos c1, decide_eq_true c1, Bool.true_and]
    have key := loopE (σ := Unit) (fun _ p => br_couldShare_30 s (nn b) (nn c) r (nn p)) (hiN s b + 1) (fun p _ => loN s b ≤ p ∧ ∀ q, q < p → shP s b c r q = false) (fun o => o = rI 1 s ∧ exB (shP s b c r) (hiN s b + 1) = true) (i0 := loN s b) (s0 := ()) (fun p _ hp hI => by
      show (∃ s', br_couldShare_30 s (nn b) (nn c) r (nn p) = br_couldShare_30 s (nn b) (nn c) r (nn (p + 1)) ∧ _) ∨ (br_couldShare_30 s (nn b) (nn c) r (nn p) = rI 1 s ∧ _)
      obtain ⟨hp0, hI⟩ := hI
      have ip := nn_i (i := p) (by omega)
      obtain ⟨kx, ky⟩ := pxy_bd g2 g4 (p := nn p) (by omega) (by omega)
      obtain ⟨v, k1, k2⟩ := ffC G (r := 2 * r) kx ky (by have := hr.2; omega)
      rw [br_couldShare_30_eq s (nn b) (nn c) r (nn p), nn_b g1 (by decide), gd_t, nn_n (by omega), ehi, if_neg (nlt (by omega) (by omega)), gd_t, g3, pxC g2 g4, bI_rI, gd_t, g3, pyC g2 g4, bI_rI, k1, bI_rI, nn_s]
      cases e : nrB s c (pxV s (lnB s b) (nn p)) (pyV s (lnB s b) (nn p)) (2 * r) with
      | false =>
        rw [if_pos (k2.mpr e)]
        refine Or.inl ⟨(), rfl, by omega, fun q hq => ?_⟩
        by_cases eq : q = p
        · rw [eq]
          unfold shP
          rw [e, Bool.and_false]
        · exact hI q (by omega)
      | true =>
        rw [if_neg (fun q => by rw [k2.mp q] at e; cases e)]
        refine Or.inr ⟨rfl, exB_iff.mpr ⟨p, hp, ?_⟩⟩
        unfold shP
        rw [e, decide_eq_true hp0]
        rfl) (by omega) ⟨Nat.le_refl _, fun q hq => by unfold shP; rw [decide_eq_false (by omega), Bool.false_and]⟩
    rcases key with ⟨-, f1, -, f2⟩ | ⟨f1, f2⟩
    · have f1 : br_couldShare_30 s (nn b) (nn c) r (nn (loN s b)) = br_couldShare_30 s (nn b) (nn c) r (nn (hiN s b + 1)) := f1
      rw [f1, br_couldShare_30_eq, nn_b g1 (by decide), gd_t, nn_n (by omega), ehi, if_pos (ylt (by omega) (by omega)), exB_f f2]
      rfl
    · have f1 : br_couldShare_30 s (nn b) (nn c) r (nn (loN s b)) = rI 1 s := f1
      rw [f1, f2]
      rfl
  · rw [if_neg c1, decide_eq_false c1, Bool.false_and]
    rfl
theorem shareM {s : mSt} (hJ : J s) {b c : Nat} (hb : b < nbr s) (hc : c < nbr s) {r : Int32} (hr : bd r 0 99) : mo_shared_46 s (nn b) (nn c) r 0 (nn (loN s b)) = rI (bi (shB s b c r)) s := by
  have H := HB_of hJ hb
  have G := HB_of hJ hc
  obtain ⟨⟨q1, q2, q3, q4, q5⟩, -⟩ := id (J_Y hJ)
  obtain ⟨elo, ehi, e3, e4, e5, e6, e7⟩ := lohi H
  obtain ⟨clo, chi, d3, d4, d5, d6, d7⟩ := lohi G
  obtain ⟨g1, g2, g3, g4, -⟩ := id H
  obtain ⟨k1, k2, k3, k4, -⟩ := id G
  have fin : ∀ w : Bool, (if bi w = 0 then rI 0 s else rI 1 s) = rI (bi w) s := fun w => by cases w <;> rfl
  unfold shB
  by_cases c1 : jAbs (s 37 b - s 37 c) ≤ 2
  · rw [decide_eq_true c1, Bool.true_and]
    have n2 : ¬ (2 : Int32) < jAbs (s 37 b - s 37 c) := Int32.not_lt.mpr c1
    have enter : ∀ (w : Bool) (p : Nat), p ≤ hiN s b → mo_shared_46 s (nn b) (nn c) r (bi w) (nn p) = mo_shared_85 s (nn b) (nn c) r (bi w) (nn p) (nn (loN s c)) := fun w p hp => by
      rw [mo_shared_46_eq, nn_b g1 (by decide), nn_b k1 (by decide)]
      simp only [gd_t]
      rw [nn_n (by omega), nn_n (by omega), q5, ehi, if_neg (nlt (by omega) (by omega)), q2, pl1, bI_rI, if_neg n2, q4, clo]
    have inner : ∀ (w : Bool) (p : Nat), loN s b ≤ p → p ≤ hiN s b → mo_shared_85 s (nn b) (nn c) r (bi w) (nn p) (nn (loN s c)) = mo_shared_46 s (nn b) (nn c) r (bi (w || shP s b c r p)) (nn (p + 1)) := fun w p hp0 hp => by
      have ip := nn_i (i := p) (by omega)
      obtain ⟨kx, ky⟩ := pxy_bd g2 g4 (p := nn p) (by omega) (by omega)
      obtain ⟨u, f1, f2⟩ := loopS (σ := Bool) (fun u q => mo_shared_85 s (nn b) (nn c) r (bi u) (nn p) (nn q)) (hiN s c + 1) (fun q u => loN s c ≤ q ∧ u = (w || exB (nrP s c (pxV s (lnB s b) (nn p)) (pyV s (lnB s b) (nn p)) (2 * r)) q)) (i0 := loN s c) (s0 := w) (fun q u hq hu => by
        show ∃ s', mo_shared_85 s (nn b) (nn c) r (bi u) (nn p) (nn q) = mo_shared_85 s (nn b) (nn c) r (bi s') (nn p) (nn (q + 1)) ∧ _ ∧ s' = _
        obtain ⟨hq0, hu⟩ := hu
        have iq := nn_i (i := q) (by omega)
        obtain ⟨jx, jy⟩ := pxy_bd k2 k4 (p := nn q) (by omega) (by omega)
        refine ⟨u || nrP s c (pxV s (lnB s b) (nn p)) (pyV s (lnB s b) (nn p)) (2 * r) q, ?_, by omega, by rw [hu, Bool.or_assoc]; rfl⟩
        rw [mo_shared_85_eq s (nn b) (nn c) r (bi u) (nn p) (nn q), nn_b g1 (by decide), nn_b k1 (by decide)]
        simp only [gd_t]
        rw [nn_n (by omega), nn_n (by omega), q5, chi, if_neg (nlt (by omega) (by omega)), q1, g3, pxM g2 g4 (by omega), bI_rI, q1, k3, pxM k2 k4 (by omega), bI_rI, pl1, bI_rI, q1, g3, pyM g2 g4 (by omega) (by omega), bI_rI, q1, k3, pyM k2 k4 (by omega) (by omega), bI_rI, pl1, bI_rI, jAbs_sw kx jx, jAbs_sw ky jy, bi_if, nn_s]
        show (if u = true then _ else if 2 * r < dsV s c q (pxV s (lnB s b) (nn p)) (pyV s (lnB s b) (nn p)) then _ else _) = _
        unfold nrP
        rw [decide_eq_true hq0, Bool.true_and]
        cases u with
        | true => rw [if_pos rfl]; rfl
        | false =>
          rw [if_neg (show ¬ false = true by decide), Bool.false_or]
          by_cases c2 : 2 * r < dsV s c q (pxV s (lnB s b) (nn p)) (pyV s (lnB s b) (nn p))
          · rw [if_pos c2, decide_eq_true c2]; rfl
          · rw [if_neg c2, decide_eq_false c2]; rfl) (by omega) ⟨Nat.le_refl _, by
            rw [exB_f, Bool.or_false]
            intro q hq
            unfold nrP
            rw [decide_eq_false (by omega), Bool.false_and]⟩
      have f1 : mo_shared_85 s (nn b) (nn c) r (bi w) (nn p) (nn (loN s c)) = mo_shared_85 s (nn b) (nn c) r (bi u) (nn p) (nn (hiN s c + 1)) := f1
      rw [f1, mo_shared_85_eq, nn_b k1 (by decide), gd_t, nn_n (by omega), q5, chi, if_pos (ylt (by omega) (by omega)), nn_s, f2.2]
      unfold shP
      rw [decide_eq_true hp0, Bool.true_and]
      rfl
    obtain ⟨u, f1, f2⟩ := loopS (σ := Bool) (fun u p => mo_shared_46 s (nn b) (nn c) r (bi u) (nn p)) (hiN s b + 1) (fun p u => loN s b ≤ p ∧ u = exB (shP s b c r) p) (i0 := loN s b) (s0 := false) (fun p u hp hu => by
      show ∃ s', mo_shared_46 s (nn b) (nn c) r (bi u) (nn p) = mo_shared_46 s (nn b) (nn c) r (bi s') (nn (p + 1)) ∧ _ ∧ s' = _
      obtain ⟨hp0, hu⟩ := hu
      exact ⟨_, by rw [enter u p (by omega), inner u p hp0 (by omega)], by omega, by rw [hu]; rfl⟩) (by omega) ⟨Nat.le_refl _, by
        rw [exB_f]
        intro q hq
        unfold shP
        rw [decide_eq_false (by omega), Bool.false_and]⟩
    have f1 : mo_shared_46 s (nn b) (nn c) r 0 (nn (loN s b)) = mo_shared_46 s (nn b) (nn c) r (bi u) (nn (hiN s b + 1)) := f1
    rw [f1, mo_shared_46_eq, nn_b g1 (by decide), gd_t, nn_n (by omega), q5, ehi, if_pos (ylt (by omega) (by omega)), fin, f2.2]
  · rw [decide_eq_false c1, Bool.false_and, mo_shared_46_eq, nn_b g1 (by decide), nn_b k1 (by decide)]
    simp only [gd_t]
    rw [nn_n (by omega), nn_n (by omega), q5, ehi, if_neg (nlt (by omega) (by omega)), q2, pl1, bI_rI, if_pos (Int32.not_le.mp c1), if_pos trivial]
    rfl
theorem c_shared : CS3 J LL_shared mo_shared := by
  intro s x y r hJ
  have hB := J_B hJ
  have bb := hB.2.2
  by_cases h1 : wb x 0 (s 35 2 - 1) = 0
  · exact ⟨-1, s, s, by rw [LL_shared_eq, hasB hB, bI_rI, if_pos h1], by rw [mo_shared_eq, moB hB, bI_rI, if_pos h1], hJ⟩
  by_cases h2 : wb y 0 (s 35 2 - 1) = 0
  · exact ⟨-1, s, s, by rw [LL_shared_eq, hasB hB, bI_rI, if_neg h1, hasB hB, bI_rI, if_pos h2], by rw [mo_shared_eq, moB hB, bI_rI, if_neg h1, moB hB, bI_rI, if_pos h2], hJ⟩
  by_cases h3 : x = y
  · exact ⟨-1, s, s, by rw [LL_shared_eq, hasB hB, bI_rI, if_neg h1, hasB hB, bI_rI, if_neg h2, if_pos h3], by rw [mo_shared_eq, moB hB, bI_rI, if_neg h1, moB hB, bI_rI, if_neg h2, if_pos h3], hJ⟩
  by_cases h4 : wb r 0 99 = 0
  · exact ⟨-1, s, s, by rw [LL_shared_eq, hasB hB, bI_rI, if_neg h1, hasB hB, bI_rI, if_neg h2, if_neg h3, LLw, bI_rI, if_pos h4], by rw [mo_shared_eq, moB hB, bI_rI, if_neg h1, moB hB, bI_rI, if_neg h2, if_neg h3, mw_0_99, bI_rI, if_pos h4], hJ⟩
  have w4 := wb_n h4
  have r0 : (0 : Int32).toInt = 0 := rfl
  have r99 : (99 : Int32).toInt = 99 := rfl
  obtain ⟨en, h8, ei⟩ := nbr_ok hJ
  obtain ⟨b, n1, ex, en1, hb, hn1⟩ := wb_nn bb (by decide) h1
  obtain ⟨c, n2, ey, en2, hc, hn2⟩ := wb_nn bb (by decide) h2
  have f1 : n1 = nbr s := (nn_eq (by omega) (by omega)).mp (en1.symm.trans en)
  have f2 : n2 = nbr s := (nn_eq (by omega) (by omega)).mp (en2.symm.trans en)
  subst ex ey
  have hb' : b < nbr s := by omega
  have hc' : c < nbr s := by omega
  have hr : bd r 0 99 := ⟨by omega, by omega⟩
  have q4 := (J_Y hJ).1.2.2.2.1
  have elo := (lohi (HB_of hJ hb')).1
  refine ⟨bi (shB s b c r), s, s, ?_, ?_, hJ⟩
  · rw [LL_shared_eq, hasB hB, bI_rI, if_neg h1, hasB hB, bI_rI, if_neg h2, if_neg h3, LLw, bI_rI, if_neg h4, shareC hJ hb' hc' hr, bI_rI]
    cases shB s b c r <;> rfl
  · rw [mo_shared_eq, moB hB, bI_rI, if_neg h1, moB hB, bI_rI, if_neg h2, if_neg h3, mw_0_99, bI_rI, if_neg h4, nn_b (i := b) (n := 8) (by omega) (by decide), gd_t, nn_n (by omega), q4, elo, shareM hJ hb' hc' hr]
