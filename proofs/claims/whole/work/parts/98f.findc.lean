/-! the next parting, the best of all: the class -/
section FBC
variable {t s s0 : mSt} {n i x c : Nat}
theorem chgC (h7 : n ≤ 7) {v : Nat → Nat} (hv : v i < 3) (hx : x < 3) (hi : i < n) (h1 : ∀ k, k < n → s 159 k = nn (v k)) (h2 : ∀ j, j < 3 → s 160 j = nn (mkF v j n)) : ∃ s', me_nextParting_38 s (nn i) (nn (v i)) (nn x) = (if nn x ≤ nn (v i) then me_nextParting_7 s' (nn i + -1) else rI 1 s') ∧ Ch [159, 160] [] s s' ∧ (∀ k, k < n → s' 159 k = nn (vup v i x k)) ∧ ∀ j, j < 3 → s' 160 j = nn (mkF (vup v i x) j n) := by
  have hR7 : 2 ^ n ≤ 2 ^ 7 := Nat.pow_le_pow_right (by omega) h7
  have l1 := mk_lt v (v i) n
  have l2 := mk_lt v x n
  have l3 : (if v i = x then 2 ^ i else 0 : Nat) < 2 ^ n := by
    split
    · exact Nat.pow_lt_pow_right (by omega) hi
    · exact Nat.two_pow_pos n
  have l4 : mkF v x n ^^^ (if v i = x then 2 ^ i else 0) < 2 ^ n := Nat.xor_lt_two_pow l2 l3
  have eA : s 160 (v i) ^^^ (1 <<< (nn i &&& 31)) = nn (mkF v (v i) n ^^^ 2 ^ i) := by rw [h2 _ hv, bxor (by omega) (by omega)]
  have eB : wr s 160 (v i) (nn (mkF v (v i) n ^^^ 2 ^ i)) 160 x ^^^ (1 <<< (nn i &&& 31)) = nn (mkF v x n ^^^ (if v i = x then 2 ^ i else 0) ^^^ 2 ^ i) := by
    have : wr s 160 (v i) (nn (mkF v (v i) n ^^^ 2 ^ i)) 160 x = nn (mkF v x n ^^^ (if v i = x then 2 ^ i else 0)) := by
      rw [wr_at]
      by_cases e : x = v i
      · rw [e, upd_at, if_pos rfl]
      · rw [upd_ne e, h2 x hx, if_neg (fun z => e z.symm), Nat.xor_zero]
    rw [this, bxor (by omega) (by omega)]
  refine ⟨wr (wr (wr s 160 (v i) (nn (mkF v (v i) n ^^^ 2 ^ i))) 160 x (nn (mkF v x n ^^^ (if v i = x then 2 ^ i else 0) ^^^ 2 ^ i))) 159 i (nn x), ?_, Ch_w rfl rfl (Ch_w rfl rfl (Ch_w rfl rfl Ch_rf)), fun k hk => ?_, fun j hj => ?_⟩
  · rw [me_nextParting_38_eq, nn_b (i := v i) (n := 3) hv (by decide), nn_b (i := x) (n := 3) hx (by decide), nn_b (i := i) (n := 7) (by omega) (by decide), nn_n (i := v i) (by omega), nn_n (i := x) (by omega), nn_n (i := i) (by omega), eA, eB]
    simp only [gd_t]
  · rw [wr_at]
    unfold vup
    by_cases e : k = i
    · rw [e, upd_at, if_pos rfl]
    · rw [upd_ne e, wr_ne _ _ _ (by decide), wr_ne _ _ _ (by decide), if_neg e]; exact h1 k hk
  · rw [wr_ne _ _ _ (by decide), wr_at, mk_x v x j hi]
    by_cases e : j = x
    · rw [e, upd_at, if_pos rfl]
    · rw [upd_ne e, wr_at, if_neg (show ¬ x = j from fun z => e z.symm), Nat.xor_zero]
      by_cases f : j = v i
      · rw [f, upd_at, if_pos rfl]
      · rw [upd_ne f, if_neg (show ¬ v i = j from fun z => f z.symm), Nat.xor_zero]; exact h2 j hj
theorem nextC (hJ : J t) (h7 : jnN t ≤ 7) (hm : 0 < nsh t) (hc : c < nsh t ^ jnN t) : ∀ r, r ≤ jnN t → ∀ s, K t s → (∀ k, k < jnN t → s 159 k = nn (if k < r then dgN (nsh t) (jnN t) c k else 0)) → (∀ j, j < 3 → s 160 j = nn (mkF (fun k => if k < r then dgN (nsh t) (jnN t) c k else 0) j (jnN t))) → nsh t ^ (jnN t - r) ∣ c + 1 → ∃ s', me_nextParting_7 s (nn r - 1) = rI (bi (decide (c + 1 < nsh t ^ jnN t))) s' ∧ Ch [159, 160] [] s s' ∧ (c + 1 < nsh t ^ jnN t → (∀ k, k < jnN t → s' 159 k = nn (dgN (nsh t) (jnN t) (c + 1) k)) ∧ ∀ j, j < 3 → s' 160 j = nn (mkV t (c + 1) j)) := by
  obtain ⟨en, h3, -⟩ := nsh_ok hJ
  intro r
  induction r with
  | zero =>
    intro hr s hK _ _ hd
    have := dg_end hc (by rw [Nat.sub_zero] at hd; exact hd)
    refine ⟨s, ?_, Ch_rf, fun w => by omega⟩
    rw [me_nextParting_7_eq, if_pos (by decide), decide_eq_false (by omega)]
    rfl
  | succ i ih =>
    intro hr s hK h1 h2 hd
    have hi : i < jnN t := by omega
    have ei : nn (i + 1) - 1 = nn i := nn_d (j := 1) (by omega)
    have hv : s 159 i = nn (dgN (nsh t) (jnN t) c i) := by rw [h1 i hi, if_pos (by omega)]
    have hl := dg_lt (n := jnN t) hm c i
    have hvi : (if i < i + 1 then dgN (nsh t) (jnN t) c i else 0) = dgN (nsh t) (jnN t) c i := if_pos (by omega)
    rw [ei, me_nextParting_7_eq, if_neg (show ¬ nn i < 0 from nlt (j := 0) (by omega) (by omega)), nn_b (i := i) (n := 7) (by omega) (by decide), gd_t, nn_n (by omega), hv, K_at hK 129 rfl, en, nn_s]
    by_cases o : nsh t ≤ dgN (nsh t) (jnN t) c i + 1
    · rw [if_pos (yle o (by omega))]
      obtain ⟨s1, f1, f2, f3, f4⟩ := chgC (s := s) (n := jnN t) (i := i) (x := 0) (v := fun k => if k < i + 1 then dgN (nsh t) (jnN t) c k else 0) h7 (by rw [hvi]; omega) (by omega) hi h1 h2
      rw [hvi] at f1
      have f1 : me_nextParting_38 s (nn i) (nn (dgN (nsh t) (jnN t) c i)) 0 = _ := f1
      have ev : ∀ k, vup (fun k => if k < i + 1 then dgN (nsh t) (jnN t) c k else 0) i 0 k = if k < i then dgN (nsh t) (jnN t) c k else 0 := fun k => by
        unfold vup
        by_cases e : k = i
        · rw [if_pos e, if_neg (by omega)]
        · rw [if_neg e]
          by_cases l : k < i
          · rw [if_pos l]; exact if_pos (by omega)
          · rw [if_neg l]; exact if_neg (by omega)
      obtain ⟨s2, g1, g2, g3⟩ := ih (by omega) s1 (K_ch f2 rfl rfl hK) (fun k hk => by rw [f3 k hk, ev]) (fun j hj => by rw [f4 j hj, mk_cg (fun k _ => ev k)]) (dg_carry hm hi hd o)
      refine ⟨s2, ?_, Ch_tr f2 g2, g3⟩
      rw [f1, if_pos (show nn 0 ≤ _ from yle (Nat.zero_le _) (by omega)), ← g1, Int32.sub_eq_add_neg]
    · rw [if_neg (nle (by omega) (by omega))]
      obtain ⟨s1, f1, f2, f3, f4⟩ := chgC (s := s) (n := jnN t) (i := i) (x := dgN (nsh t) (jnN t) c i + 1) (v := fun k => if k < i + 1 then dgN (nsh t) (jnN t) c k else 0) h7 (by rw [hvi]; omega) (by omega) hi h1 h2
      rw [hvi] at f1
      obtain ⟨g1, g2⟩ := dg_step hm hi hc hd (by omega)
      have ev : ∀ k, k < jnN t → vup (fun k => if k < i + 1 then dgN (nsh t) (jnN t) c k else 0) i (dgN (nsh t) (jnN t) c i + 1) k = dgN (nsh t) (jnN t) (c + 1) k := fun k hk => by
        rw [g2 k hk]
        unfold vup
        by_cases e : k = i
        · rw [if_pos e, if_pos e]
        · rw [if_neg e, if_neg e]
          by_cases l : k < i
          · rw [if_pos l]; exact if_pos (by omega)
          · rw [if_neg l]; exact if_neg (by omega)
      refine ⟨s1, ?_, f2, fun _ => ⟨fun k hk => by rw [f3 k hk, ev k hk], fun j hj => by rw [f4 j hj, mk_cg ev]; rfl⟩⟩
      rw [f1, if_neg (nle (by omega) (by omega)), decide_eq_true g1]
      rfl
theorem pow_2187 {m n : Nat} (hm : m ≤ 3) (hn : n ≤ 7) : m ^ n ≤ 2187 := by
  have h1 : m ^ n ≤ 3 ^ n := Nat.pow_le_pow_left hm n
  have h2 : 3 ^ n ≤ 3 ^ 7 := Nat.pow_le_pow_right (by omega) hn
  have : (3 : Nat) ^ 7 = 2187 := by decide
  omega
theorem fill159 (s : mSt) : ∃ s', ay_fill_159 s 0 = rV s' ∧ Ch [159] [] s s' ∧ ∀ k, k < 7 → s' 159 k = 0 := by
  obtain ⟨s1, e1, e2, e3⟩ := loopS (σ := mSt) (fun s1 k => ay_fill_159_5 s1 0 (nn k) 7) 7 (fun k s1 => Ch [159] [] s s1 ∧ ∀ i, i < k → s1 159 i = 0) (i0 := 0) (s0 := s) (fun k s1 hk hI => by
    show ∃ s', ay_fill_159_5 s1 0 (nn k) 7 = ay_fill_159_5 s' 0 (nn (k + 1)) 7 ∧ _
    refine ⟨wr s1 159 k 0, ?_, Ch_w rfl rfl hI.1, fun i hi => ?_⟩
    · rw [ay_fill_159_5_eq s1 0 (nn k) 7, if_neg (show ¬ (7 : Int32) ≤ nn k from nle (i := 7) hk (by decide)), nn_b (i := k) (n := 7) hk (by decide), gd_t, nn_n (by omega), nn_s]
    · rw [wr_at]
      by_cases e : i = k
      · rw [e, upd_at]
      · rw [upd_ne e]; exact hI.2 i (by omega)) (by omega) ⟨Ch_rf, fun i hi => by omega⟩
  have e1 : ay_fill_159_5 s 0 0 7 = ay_fill_159_5 s1 0 (nn 7) 7 := e1
  refine ⟨s1, ?_, e2, e3⟩
  rw [ay_fill_159_eq, e1, ay_fill_159_5_eq, if_pos (by decide)]
theorem fill160 (s : mSt) : ∃ s', ay_fill_160 s 0 = rV s' ∧ Ch [160] [] s s' ∧ ∀ k, k < 3 → s' 160 k = 0 := by
  obtain ⟨s1, e1, e2, e3⟩ := loopS (σ := mSt) (fun s1 k => ay_fill_160_5 s1 0 (nn k) 3) 3 (fun k s1 => Ch [160] [] s s1 ∧ ∀ i, i < k → s1 160 i = 0) (i0 := 0) (s0 := s) (fun k s1 hk hI => by
    show ∃ s', ay_fill_160_5 s1 0 (nn k) 3 = ay_fill_160_5 s' 0 (nn (k + 1)) 3 ∧ _
    refine ⟨wr s1 160 k 0, ?_, Ch_w rfl rfl hI.1, fun i hi => ?_⟩
    · rw [ay_fill_160_5_eq s1 0 (nn k) 3, if_neg (show ¬ (3 : Int32) ≤ nn k from nle (i := 3) hk (by decide)), nn_b (i := k) (n := 3) hk (by decide), gd_t, nn_n (by omega), nn_s]
    · rw [wr_at]
      by_cases e : i = k
      · rw [e, upd_at]
      · rw [upd_ne e]; exact hI.2 i (by omega)) (by omega) ⟨Ch_rf, fun i hi => by omega⟩
  have e1 : ay_fill_160_5 s 0 0 3 = ay_fill_160_5 s1 0 (nn 3) 3 := e1
  refine ⟨s1, ?_, e2, e3⟩
  rw [ay_fill_160_eq, e1, ay_fill_160_5_eq, if_pos (by decide)]
theorem mk_zero (t : mSt) (hm : 0 < nsh t) (j : Nat) : mkV t 0 j = if j = 0 then 2 ^ jnN t - 1 else 0 := by
  apply Nat.eq_of_testBit_eq
  intro q
  unfold mkV
  rw [mk_bit, dg_zero hm]
  by_cases e : j = 0
  · rw [if_pos e, Nat.testBit_two_pow_sub_one, e, decide_eq_true rfl, Bool.and_true]
  · rw [if_neg e, Nat.zero_testBit, decide_eq_false (show ¬ 0 = j from fun z => e z.symm), Bool.and_false]
theorem fs_zero (hJ : J t) {j : Nat} (hj : j < nsh t) : fsB t j 0 = true := by
  obtain ⟨-, z3, -⟩ := J_Z hJ j (by have := (nsh_ok hJ).2; omega)
  have hno : exB (fun k => (0 : Nat).testBit k && !lvB t j (jI t k)) (jnN t) = false := by
    cases e : exB (fun k => (0 : Nat).testBit k && !lvB t j (jI t k)) (jnN t) with
    | false => rfl
    | true =>
      obtain ⟨i, h1, h2⟩ := exB_iff.mp e
      rw [Nat.zero_testBit, Bool.false_and] at h2; cases h2
  unfold fsB
  rw [hno, rq_zero, decide_eq_true z3.1]
  rfl
/-- with no jobs, the one parting costs nothing -/
theorem none_ok (hJ : J t) (hn : jnN t = 0) : okB t 0 = true := ok_iff.mpr (fun j hj => by
  have : mkV t 0 j = 0 := by have := mkV_lt t 0 j; rw [hn] at this; omega
  rw [this]; exact fs_zero hJ hj)
theorem none_pt (hJ : J t) (hn : jnN t = 0) {U : Nat → Nat → Int32} (hU : ∀ j D, j < nsh t → D < 2 ^ jnN t → coP t j D (U j D)) : ∀ k, k ≤ nsh t → ptV U t 0 k = 0 := by
  intro k
  induction k with
  | zero => intro _; rfl
  | succ k ih =>
    intro hk
    have e0 : mkV t 0 k = 0 := by have := mkV_lt t 0 k; rw [hn] at this; omega
    show ptV U t 0 k + U k (mkV t 0 k) = 0
    rw [ih (by omega), e0, ((hU k 0 (by omega) (Nat.two_pow_pos _)).2 (fs_zero hJ (by omega))).1 rfl]
    rfl
theorem findBestC (hJ : J t) (h7 : jnN t ≤ 7) (hK : K t s0) (w1 : s0 135 3 = nn (jnN t)) (hU : ∀ j D, j < nsh t → D < 2 ^ jnN t → coP t j D (s0 (156 + j) D)) : ∃ s', me_findBest s0 = rI (bi (bsO (fun j D => s0 (156 + j) D) t (nsh t ^ jnN t)).isSome) s' ∧ Ch [135, 159, 160, 161] [] s0 s' ∧ s' 135 3 = nn (jnN t) ∧ ∀ b, bsO (fun j D => s0 (156 + j) D) t (nsh t ^ jnN t) = some b → s' 135 13 = ptV (fun j D => s0 (156 + j) D) t b (nsh t) ∧ ∀ k, k < jnN t → s' 161 k = nn (dgN (nsh t) (jnN t) b k) := by
  obtain ⟨en, h3, -⟩ := nsh_ok hJ
  have em : (2147483647 : Int32).toInt = 2147483647 := rfl
  have hN := pow_2187 h3 h7
  rw [me_findBest_eq, w1]
  by_cases n0 : jnN t = 0
  · have ez : nn (jnN t) = 0 := by rw [n0]; rfl
    have e1 : bsO (fun j D => s0 (156 + j) D) t (nsh t ^ jnN t) = some 0 := by
      rw [n0, Nat.pow_zero]
      show (if okB t 0 = true then some 0 else none) = _
      rw [if_pos (none_ok hJ n0)]
    refine ⟨wr s0 135 13 0, ?_, Ch_w rfl rfl Ch_rf, by rw [wr_at, upd_ne (by decide)]; exact w1, fun b hb => ?_⟩
    · rw [if_pos ez, me_findBest_14_eq, w1, if_pos ez, me_findBest_34_eq, wr_at, upd_ne (by decide), w1, if_pos ez, e1]
      rfl
    · rw [e1] at hb
      cases hb
      refine ⟨?_, fun k hk => by omega⟩
      rw [wr_at, upd_at]
      exact (none_pt (U := fun j D => s0 (156 + j) D) hJ n0 hU (nsh t) (Nat.le_refl _)).symm
  · have ez : ¬ nn (jnN t) = 0 := fun w => n0 ((nn_eq (j := 0) (by omega) (by omega)).mp w)
    by_cases m0 : nsh t = 0
    · have e1 : bsO (fun j D => s0 (156 + j) D) t (nsh t ^ jnN t) = none := by
        rw [m0, Nat.zero_pow (by omega)]; rfl
      refine ⟨wr s0 135 13 2147483647, ?_, Ch_w rfl rfl Ch_rf, by rw [wr_at, upd_ne (by decide)]; exact w1, fun b hb => ?_⟩
      · rw [if_neg ez, me_findBest_14_eq, w1, if_neg ez, K_at hK 129 rfl, en, if_pos (by rw [m0]; rfl), me_findBest_34_eq, wr_at, upd_ne (by decide), w1, if_neg ez, e1]
        rfl
      · rw [e1] at hb; cases hb
    · have hm : 0 < nsh t := by omega
      have hNp : 0 < nsh t ^ jnN t := Nat.pow_pos hm
      obtain ⟨s1, a1, a2, a3⟩ := fill159 (wr s0 135 13 2147483647)
      obtain ⟨s2, b1, b2, b3⟩ := fill160 s1
      have c2 : Ch [135, 159, 160, 161] [] s0 s2 := Ch_tr (Ch_tr (Ch_w rfl rfl Ch_rf) (Ch_sub a2 rfl rfl)) (Ch_sub b2 rfl rfl)
      have r135 : s2 135 = wr s0 135 13 2147483647 135 := by rw [b2.1 135 rfl rfl, a2.1 135 rfl rfl]
      have w2 : s2 135 3 = nn (jnN t) := by rw [r135, wr_at, upd_ne (by decide)]; exact w1
      have e0 : (1 : Int32) <<< (nn (jnN t) &&& 31) - 1 = nn (2 ^ jnN t - 1) := by
        rw [bpow (by omega)]
        exact nn_d (j := 1) (Nat.two_pow_pos _)
      have I0 : CI (fun j D => s0 (156 + j) D) t s0 0 0 (wr s2 160 0 (nn (2 ^ jnN t - 1))) := by
        refine ⟨Ch_w rfl rfl c2, ?_, fun k hk => ?_, fun j hj => ?_, ?_, fun b hb => by cases hb⟩
        · rw [wr_ne _ _ _ (by decide)]; exact w2
        · rw [wr_ne _ _ _ (by decide), b2.1 159 rfl rfl, a3 k (by omega), dg_zero hm]; rfl
        · rw [wr_at, mk_zero t hm]
          by_cases e : j = 0
          · rw [e, upd_at, if_pos rfl]
          · rw [upd_ne e, b3 j hj, if_neg e]; rfl
        · rw [wr_ne _ _ _ (by decide), r135, wr_at, upd_at]; rfl
      have start : (if nn (jnN t) = 0 then me_findBest_14 s0 0 else me_findBest_14 s0 2147483647) = me_findBest_81 (wr s2 160 0 (nn (2 ^ jnN t - 1))) 1 0 := by
        rw [if_neg ez, me_findBest_14_eq, w1, if_neg ez, K_at hK 129 rfl, en, if_neg (show ¬ nn (nsh t) = 0 from fun w => m0 ((nn_eq (j := 0) (by omega) (by omega)).mp w)), a1, bV_rV, b1, bV_rV, w2, e0]
      have step : ∀ c s, c < nsh t ^ jnN t → CI (fun j D => s0 (156 + j) D) t s0 c c s → ∃ s', me_findBest_81 s 1 (nn c) = me_findBest_81 s' (bi (decide (c + 1 < nsh t ^ jnN t))) (nn (c + 1)) ∧ Ch [135, 159, 160, 161] [] s0 s' ∧ s' 135 3 = nn (jnN t) ∧ s' 135 13 = bsV (fun j D => s0 (156 + j) D) t (bsO (fun j D => s0 (156 + j) D) t (c + 1)) ∧ (∀ b, bsO (fun j D => s0 (156 + j) D) t (c + 1) = some b → ∀ k, k < jnN t → s' 161 k = nn (dgN (nsh t) (jnN t) b k)) ∧ (c + 1 < nsh t ^ jnN t → CI (fun j D => s0 (156 + j) D) t s0 (c + 1) (c + 1) s') := fun c s hc hI => by
        obtain ⟨s3, d1, d2, d3, d4, d5, d6, d7⟩ := oneC hJ h7 hU hK (by omega) hI
        have ev : ∀ k, k < jnN t → dgN (nsh t) (jnN t) c k = if k < jnN t then dgN (nsh t) (jnN t) c k else 0 := fun k hk => by rw [if_pos hk]
        obtain ⟨s4, f1, f2, f3⟩ := nextC hJ h7 hm hc (jnN t) (Nat.le_refl _) s3 (K_ch d2 rfl rfl hK) (fun k hk => by rw [d4 k hk, ← ev k hk]) (fun j hj => by rw [d5 j hj]; unfold mkV; rw [mk_cg ev]) (by rw [Nat.sub_self, Nat.pow_zero]; exact Nat.one_dvd _)
        have g3 : s4 135 = s3 135 := f2.1 135 rfl rfl
        have g1 : s4 161 = s3 161 := f2.1 161 rfl rfl
        have gc : Ch [135, 159, 160, 161] [] s0 s4 := Ch_tr d2 (Ch_sub f2 rfl rfl)
        refine ⟨s4, ?_, gc, by rw [g3]; exact d3, by rw [g3]; exact d6, fun b hb k hk => by rw [g1]; exact d7 b hb k hk, fun w => ?_⟩
        · rw [d1, me_findBest_127_eq, me_nextParting_eq, d3, f1, bI_rI, nn_s]
        · exact ⟨gc, by rw [g3]; exact d3, (f3 w).1, (f3 w).2, by rw [g3]; exact d6, fun b hb k hk => by rw [g1]; exact d7 b hb k hk⟩
      obtain ⟨s3, e1, e2⟩ := loopS (σ := mSt) (fun s c => me_findBest_81 s 1 (nn c)) (nsh t ^ jnN t - 1) (fun c s => CI (fun j D => s0 (156 + j) D) t s0 c c s) (i0 := 0) (s0 := wr s2 160 0 (nn (2 ^ jnN t - 1))) (fun c s hc hI => by
        obtain ⟨s', g1, g2, g3, g4, g5, g6⟩ := step c s (by omega) hI
        have hlt : c + 1 < nsh t ^ jnN t := by omega
        rw [decide_eq_true hlt] at g1
        exact ⟨s', g1, g6 hlt⟩) (Nat.zero_le _) I0
      have e1 : me_findBest_81 (wr s2 160 0 (nn (2 ^ jnN t - 1))) 1 0 = me_findBest_81 s3 1 (nn (nsh t ^ jnN t - 1)) := e1
      obtain ⟨s4, g1, g2, g3, g4, g5, -⟩ := step (nsh t ^ jnN t - 1) s3 (by omega) e2
      rw [show nsh t ^ jnN t - 1 + 1 = nsh t ^ jnN t by omega] at g1 g4 g5
      rw [decide_eq_false (Nat.lt_irrefl _)] at g1
      refine ⟨s4, ?_, g2, g3, fun b hb => ⟨by rw [g4, hb]; rfl, g5 b hb⟩⟩
      rw [start, e1, g1, me_findBest_81_eq, if_pos (show bi false = 0 from rfl), me_findBest_138_eq, g4]
      cases q : bsO (fun j D => s0 (156 + j) D) t (nsh t ^ jnN t) with
      | none =>
        rw [if_pos (show bsV (fun j D => s0 (156 + j) D) t none = 2147483647 from rfl)]
        rfl
      | some b =>
        have hb := pt_bd (U := fun j D => s0 (156 + j) D) hJ hU (bs_ok q).2 (nsh t) (Nat.le_refl _)
        rw [if_neg (show ¬ bsV (fun j D => s0 (156 + j) D) t (some b) = 2147483647 from fun w => by
          have w : ptV (fun j D => s0 (156 + j) D) t b (nsh t) = 2147483647 := w
          rw [w] at hb
          omega)]
        rfl
end FBC
