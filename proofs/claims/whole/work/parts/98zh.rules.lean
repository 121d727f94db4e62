/-! RULES: the case (98zh.py) -/
def D0 : Nat → Int32 := fun j => ([100, 20, 1, 2, 1, 5, 4, 2] : List Int32).getD j 0
theorem rulesM0_step (s : mSt) (i : Nat) (hi : i < 8) : mo_firstRules_2 s (nn i) = mo_firstRules_2 (wr (wr s 194 i 0) 193 i (D0 i)) (nn (i + 1)) := by
  match i, hi with
  | 0, _ =>
    rw [show D0 0 = 100 from rfl, mo_firstRules_2_eq, if_neg (by decide), nn_b (i := 0) (n := 8) (by decide) (by decide), gd_t, if_pos (by decide), gd_t, nn_n (by decide), nn_s]
  | 1, _ =>
    rw [show D0 1 = 20 from rfl, mo_firstRules_2_eq, if_neg (by decide), nn_b (i := 1) (n := 8) (by decide) (by decide), gd_t, if_neg (by decide), if_pos (by decide), gd_t, nn_n (by decide), nn_s]
  | 2, _ =>
    rw [show D0 2 = 1 from rfl, mo_firstRules_2_eq, if_neg (by decide), nn_b (i := 2) (n := 8) (by decide) (by decide), gd_t, if_neg (by decide), if_neg (by decide), if_neg (by decide), if_neg (by decide), if_neg (by decide), if_neg (by decide), gd_t, nn_n (by decide), nn_s]
  | 3, _ =>
    rw [show D0 3 = 2 from rfl, mo_firstRules_2_eq, if_neg (by decide), nn_b (i := 3) (n := 8) (by decide) (by decide), gd_t, if_neg (by decide), if_neg (by decide), if_pos (by decide), gd_t, nn_n (by decide), nn_s]
  | 4, _ =>
    rw [show D0 4 = 1 from rfl, mo_firstRules_2_eq, if_neg (by decide), nn_b (i := 4) (n := 8) (by decide) (by decide), gd_t, if_neg (by decide), if_neg (by decide), if_neg (by decide), if_neg (by decide), if_neg (by decide), if_neg (by decide), gd_t, nn_n (by decide), nn_s]
  | 5, _ =>
    rw [show D0 5 = 5 from rfl, mo_firstRules_2_eq, if_neg (by decide), nn_b (i := 5) (n := 8) (by decide) (by decide), gd_t, if_neg (by decide), if_neg (by decide), if_neg (by decide), if_neg (by decide), if_pos (by decide), gd_t, nn_n (by decide), nn_s]
  | 6, _ =>
    rw [show D0 6 = 4 from rfl, mo_firstRules_2_eq, if_neg (by decide), nn_b (i := 6) (n := 8) (by decide) (by decide), gd_t, if_neg (by decide), if_neg (by decide), if_neg (by decide), if_neg (by decide), if_neg (by decide), if_pos (by decide), gd_t, nn_n (by decide), nn_s]
  | 7, _ =>
    rw [show D0 7 = 2 from rfl, mo_firstRules_2_eq, if_neg (by decide), nn_b (i := 7) (n := 8) (by decide) (by decide), gd_t, if_neg (by decide), if_neg (by decide), if_neg (by decide), if_pos (by decide), gd_t, nn_n (by decide), nn_s]
  | i + 8, hi => exact absurd hi (by omega)
theorem rulesM0 (s : mSt) : ∃ s', mo_firstRules s = rV s' ∧ (∀ a, a ≠ 183 → a ≠ 193 → a ≠ 194 → s' a = s a) ∧ (∀ f, f ≠ 17 → s' 183 f = s 183 f) ∧ s' 183 17 = 0 ∧ ∀ j, j < 8 → s' 193 j = D0 j ∧ s' 194 j = 0 := by
  obtain ⟨s1, e1, i1, i2⟩ := loopS (fun s i => mo_firstRules_2 s (nn i)) 8 (fun i s1 => (∀ a, a ≠ 193 → a ≠ 194 → s1 a = s a) ∧ ∀ j, j < i → s1 193 j = D0 j ∧ s1 194 j = 0) (fun i s1 hi ⟨h1, h2⟩ => ⟨wr (wr s1 194 i 0) 193 i (D0 i), rulesM0_step s1 i hi, fun a h3 h4 => by rw [wr_ne _ _ _ h3, wr_ne _ _ _ h4]; exact h1 a h3 h4, fun j hj => by
    have z1 : wr (wr s1 194 i 0) 193 i (D0 i) 193 = upd (s1 193) i (D0 i) := by rw [wr_at, wr_ne _ _ _ (by decide)]
    have z2 : wr (wr s1 194 i 0) 193 i (D0 i) 194 = upd (s1 194) i 0 := by rw [wr_ne _ _ _ (by decide), wr_at]
    rw [z1, z2]
    by_cases e : j = i
    · rw [e, upd_at, upd_at]; exact ⟨rfl, rfl⟩
    · rw [upd_ne e, upd_ne e]; exact h2 j (by omega)⟩) (i0 := 0) (s0 := s) (by omega) ⟨fun _ _ _ => rfl, fun j hj => absurd hj (by omega)⟩
  have e1 : mo_firstRules_2 s 0 = mo_firstRules_2 s1 (nn 8) := e1
  refine ⟨wr s1 183 17 0, ?_, fun a h1 h2 h3 => by rw [wr_ne _ _ _ h1]; exact i1 a h2 h3, fun f hf => by rw [wr_at, upd_ne hf, i1 183 (by decide) (by decide)], by rw [wr_at, upd_at], fun j hj => by rw [wr_ne _ _ _ (by decide), wr_ne _ _ _ (by decide)]; exact i2 j hj⟩
  rw [mo_firstRules_eq, e1, mo_firstRules_2_eq, if_pos (by decide)]
theorem cpw_at (s : mSt) (a : Nat) (f : Nat → Int32) (sp dp n : Nat) : cpw s a f sp dp n a = va_cpy f (s a) sp dp n := if_pos rfl
theorem cpw_ne (s : mSt) {a b : Nat} (f : Nat → Int32) (sp dp n : Nat) (h : b ≠ a) : cpw s a f sp dp n b = s b := if_neg h
theorem cpy0 {f g : Nat → Int32} {n k : Nat} : va_cpy f g 0 0 n k = if k < n then f k else g k := by
  unfold va_cpy
  by_cases h : k < n
  · rw [if_pos h, if_pos ⟨by omega, by omega⟩, Nat.sub_zero, Nat.zero_add]
  · rw [if_neg h, if_neg (fun z => h (by omega))]
theorem copyC {s : mSt} {r : Nat} (hr : r ≤ 8) (h14 : s 14 2 = nn r) : ∃ s', ru_copyFrom_1_14 s = rV s' ∧ (∀ a, a ≠ 1 → a ≠ 2 → (a < 4 ∨ 11 < a) → s' a = s a) ∧ s' 1 2 = nn r ∧ (∀ j, s' 2 j = if j < 8 then s 15 j else s 2 j) ∧ ∀ i k, i < r → k < 6 → s' (4 + i) k = s (17 + i) k := by
  obtain ⟨t, e1, i1, i2⟩ := loopS (fun s i => ru_copyFrom_1_14_17 s (nn i)) r (fun i t => (∀ a, (a < 4 ∨ 11 < a) → t a = cpw s 2 (s 15) 0 0 8 a) ∧ ∀ m k, m < i → k < 6 → t (4 + m) k = s (17 + m) k) (fun i t hi ⟨h1, h2⟩ => by
    have t14 : t 14 2 = nn r := by rw [h1 14 (by omega), cpw_ne _ _ _ _ _ (by decide)]; exact h14
    refine ⟨cpw t (4 + i) (t (17 + i)) 0 0 6, ?_, fun a ha => ?_, fun m k hm hk => ?_⟩
    · show ru_copyFrom_1_14_17 t (nn i) = _
      rw [ru_copyFrom_1_14_17_eq, t14, if_neg (nle hi (by omega)), nn_b (i := i) (n := 8) (by omega) (by decide), gd_t, gd_t, nn_n (by omega), blt_t (show i < 8 by omega), gd_t, gd_t, nn_s]
    · rw [cpw_ne _ _ _ _ _ (by omega)]; exact h1 a ha
    · by_cases e : m = i
      · rw [e, cpw_at, cpy0, if_pos hk, h1 (17 + i) (by omega), cpw_ne _ _ _ _ _ (by omega)]
      · rw [cpw_ne _ _ _ _ _ (by omega)]; exact h2 m k (by omega) hk) (i0 := 0) (s0 := cpw s 2 (s 15) 0 0 8) (by omega) ⟨fun _ _ => rfl, fun m k hm _ => absurd hm (by omega)⟩
  have e1 : ru_copyFrom_1_14_17 (cpw s 2 (s 15) 0 0 8) 0 = ru_copyFrom_1_14_17 t (nn r) := e1
  have t14 : t 14 2 = nn r := by rw [i1 14 (by omega), cpw_ne _ _ _ _ _ (by decide)]; exact h14
  refine ⟨wr t 1 2 (nn r), ?_, fun a h1 h2 h3 => ?_, by rw [wr_at, upd_at], fun j => ?_, fun i k hi hk => ?_⟩
  · rw [ru_copyFrom_1_14_eq, e1, ru_copyFrom_1_14_17_eq, t14, if_pos (yle (Nat.le_refl r) (by omega))]
  · rw [wr_ne _ _ _ h1, i1 a h3, cpw_ne _ _ _ _ _ h2]
  · rw [wr_ne _ _ _ (by decide), i1 2 (by omega), cpw_at, cpy0]
  · rw [wr_ne _ _ _ (by omega)]; exact i2 i k hi hk
theorem copyM (s : mSt) (x : Int32) : ∃ s', mo_rules_66 s x 0 = rI x s' ∧ (∀ a, a ≠ 183 → a ≠ 192 → a ≠ 195 → s' a = s a) ∧ (∀ f, f ≠ 15 → s' 183 f = s 183 f) ∧ s' 183 15 = s 183 17 ∧ (∀ j, s' 192 j = if j < 8 then s 193 j else s 192 j) ∧ ∀ m, m < 48 → s' 195 m = s 196 m := by
  obtain ⟨t, e1, i1, i2⟩ := loopS (fun s i => mo_rules_66 s x (nn i)) 8 (fun i t => (∀ a, a ≠ 192 → t a = s a) ∧ ∀ j, t 192 j = if j < i then s 193 j else s 192 j) (fun i t hi ⟨h1, h2⟩ => by
    refine ⟨wr t 192 i (t 193 i), ?_, fun a ha => by rw [wr_ne _ _ _ ha]; exact h1 a ha, fun j => ?_⟩
    · show mo_rules_66 t x (nn i) = _
      rw [mo_rules_66_eq, if_neg (show ¬ (8 : Int32) ≤ nn i from nle (i := 8) hi (by decide)), nn_b (i := i) (n := 8) hi (by decide), gd_t, gd_t, nn_n (by omega), nn_s]
    · rw [wr_at]
      by_cases e : j = i
      · rw [e, upd_at, if_pos (by omega), h1 193 (by decide)]
      · rw [upd_ne e, h2 j]
        by_cases l : j < i
        · rw [if_pos l, if_pos (by omega)]
        · rw [if_neg l, if_neg (by omega)]) (i0 := 0) (s0 := s) (by omega) ⟨fun _ _ => rfl, fun j => by rw [if_neg (by omega)]⟩
  have e1 : mo_rules_66 s x 0 = mo_rules_66 t x (nn 8) := e1
  obtain ⟨u, e2, j1, j2⟩ := loopS (fun s i => mo_rules_100 s x (nn i)) 48 (fun i u => (∀ a, a ≠ 195 → u a = wr t 183 15 (t 183 17) a) ∧ ∀ m, m < i → u 195 m = s 196 m) (fun i u hi ⟨h1, h2⟩ => by
    refine ⟨wr u 195 i (u 196 i), ?_, fun a ha => by rw [wr_ne _ _ _ ha]; exact h1 a ha, fun m hm => ?_⟩
    · show mo_rules_100 u x (nn i) = _
      rw [mo_rules_100_eq, if_neg (show ¬ (48 : Int32) ≤ nn i from nle (i := 48) hi (by decide)), nn_b (i := i) (n := 48) hi (by decide), gd_t, gd_t, nn_n (by omega), nn_s]
    · rw [wr_at]
      by_cases e : m = i
      · rw [e, upd_at, h1 196 (by decide), wr_ne _ _ _ (by decide), i1 196 (by decide)]
      · rw [upd_ne e]; exact h2 m (by omega)) (i0 := 0) (s0 := wr t 183 15 (t 183 17)) (by omega) ⟨fun _ _ => rfl, fun m hm => absurd hm (by omega)⟩
  have e2 : mo_rules_100 (wr t 183 15 (t 183 17)) x 0 = mo_rules_100 u x (nn 48) := e2
  refine ⟨u, ?_, fun a h1 h2 h3 => by rw [j1 a h3, wr_ne _ _ _ h1, i1 a h2], fun f hf => by rw [j1 183 (by decide), wr_at, upd_ne hf, i1 183 (by decide)], by rw [j1 183 (by decide), wr_at, upd_at, i1 183 (by decide)], fun j => by rw [j1 192 (by decide), wr_ne _ _ _ (by decide)]; exact i2 j, j2⟩
  rw [e1, mo_rules_66_eq, if_pos (by decide), e2, mo_rules_100_eq, if_pos (by decide)]
section CRU
variable {T : Nat → Int32} {n : Nat} {s : mSt}
theorem startC (h13 : s 13 = T) (h2 : s 12 2 = nn n) : ∃ s', rd_tell_1 s = rd_tell_1_24 s' (nn 0) ∧ cFr s s' ∧ AC T n 0 0 0 D0 (fun _ => 0) s' := by
  refine ⟨wr (wr (wr (wr (cpw s 15 D0 0 0 8) 14 2 0) 12 9 0) 12 5 0) 12 3 0, ?_, fun c h1 h2 => ?_, ⟨?_, ?_, ?_, ?_⟩, ?_, ?_, fun j hj => ?_, fun i k hi _ => absurd hi (by omega)⟩
  · rw [rd_tell_1_eq, ru_setAtFirst_14_eq, bV_rV]; rfl
  · rw [wr_ne _ _ _ h1, wr_ne _ _ _ h1, wr_ne _ _ _ h1, wr_ne _ _ _ (by omega), cpw_ne _ _ _ _ _ (by omega)]
  · rw [wr_ne _ _ _ (by decide), wr_ne _ _ _ (by decide), wr_ne _ _ _ (by decide), wr_ne _ _ _ (by decide), cpw_ne _ _ _ _ _ (by decide)]; exact h13
  · rw [wr_at, upd_ne (by decide), wr_at, upd_ne (by decide), wr_at, upd_ne (by decide), wr_ne _ _ _ (by decide), cpw_ne _ _ _ _ _ (by decide)]; exact h2
  · rw [wr_at, upd_ne (by decide), wr_at, upd_at]; rfl
  · rw [wr_at, upd_at]
  · rw [wr_at, upd_ne (by decide), wr_at, upd_ne (by decide), wr_at, upd_at]; rfl
  · rw [wr_ne _ _ _ (by decide), wr_ne _ _ _ (by decide), wr_ne _ _ _ (by decide), wr_at, upd_at]; rfl
  · rw [wr_ne _ _ _ (by decide), wr_ne _ _ _ (by decide), wr_ne _ _ _ (by decide), wr_ne _ _ _ (by decide), cpw_at, cpy0, if_pos hj]
theorem startM (hn : n ≤ 240) (hB : ∀ j, 0 ≤ (T j).toInt) (h197 : s 197 = T) (h20 : s 183 20 = nn n) : ∃ s', mo_rules s = mo_rules_20 s' (nn 0) ∧ moFr s s' ∧ AM T n 0 0 0 D0 (fun _ => 0) s' := by
  obtain ⟨s1, a1, a2, a3, a4, a5⟩ := rulesM0 (wr (wr s 183 25 0) 183 21 0)
  have t1 : s1 197 = T := by rw [a2 197 (by decide) (by decide) (by decide), wr_ne _ _ _ (by decide), wr_ne _ _ _ (by decide)]; exact h197
  have l1 : s1 183 20 = nn n := by rw [a3 20 (by decide), wr_at, upd_ne (by decide), wr_at, upd_ne (by decide)]; exact h20
  have p1 : s1 183 21 = nn 0 := by rw [a3 21 (by decide), wr_at, upd_at]; rfl
  have f1 : s1 183 25 = 0 := by rw [a3 25 (by decide), wr_at, upd_ne (by decide), wr_at, upd_at]
  obtain ⟨s2, b1, b2, b3, b4, b5⟩ := tokM hn hB t1 l1 p1 f1 (Nat.zero_le n)
  refine ⟨s2, ?_, ⟨fun a h1 h2 h3 h4 => ?_, fun f hf => ?_⟩, ⟨?_, ?_, b3, b4, b5⟩, ?_, fun j hj => ?_, fun j hj => ?_, fun m hm => absurd hm (by omega)⟩
  · rw [mo_rules_eq, a1, bV_rV, b1, bV_rV]; rfl
  · rw [b2.1 a h1, a2 a h1 h2 h3, wr_ne _ _ _ h1, wr_ne _ _ _ h1]
  · have n17 : f ≠ 17 := fun e => by rw [e] at hf; cases hf
    have n21 : f ≠ 21 := fun e => by rw [e] at hf; cases hf
    have n25 : f ≠ 25 := fun e => by rw [e] at hf; cases hf
    rw [b2.2 f (c17 hf), a3 f n17, wr_at, upd_ne n21, wr_at, upd_ne n25]
  · rw [b2.1 197 (by decide)]; exact t1
  · rw [b2.2 20 rfl]; exact l1
  · rw [b2.2 17 rfl, a4]; rfl
  · rw [b2.1 193 (by decide)]; exact (a5 j hj).1
  · rw [b2.1 194 (by decide), Nat.zero_testBit]; exact (a5 j hj).2
theorem uR_n : ∀ a ∈ uR, 24 < a ∧ a ≠ 183 ∧ a ≠ 192 ∧ a ≠ 193 ∧ a ≠ 194 ∧ a ≠ 195 ∧ a ≠ 196 := by decide
theorem vR_n : ∀ a ∈ vR, [17, 21, 22, 23, 24, 25, 26].contains a = false ∧ a ≠ 20 ∧ a ≠ 15 := by decide
theorem D0_ok : ∀ j : Fin 8, (lstV (nn j.val)).toInt ≤ (D0 j.val).toInt ∧ (D0 j.val).toInt ≤ (mstV (nn j.val)).toInt := by decide
theorem c_rules : CS0 J LL_rules mo_rules := by
  intro s hJ
  obtain ⟨⟨et, bt⟩, ef, er, hb⟩ := id (J_T hJ)
  obtain ⟨n, en, hn, hn2, -⟩ := nn_of bt
  have hn : n ≤ 240 := by omega
  have hB : ∀ j, 0 ≤ (s 13 j).toInt := fun j => (hb j).1
  obtain ⟨sA, a1, a2, a3⟩ := startC (T := s 13) (n := n) rfl en
  have hLL : ∀ v s1, rd_tell_1_24 sA (nn 0) = rI v s1 → LL_rules s = rI v s1 := fun v s1 h => by rw [LL_rules_eq, a1, h, bI_rI]
  have e0 : nn 0 = (0 : Int32) := rfl
  rcases loopB hn hB (n + 1) 0 0 0 D0 (fun _ => 0) 0 (by omega) (by omega) (by omega) (by omega) (by omega) ⟨fun j hj => D0_ok ⟨j, hj⟩, fun i hi => absurd hi (by omega)⟩ with ⟨k, q, z1, z2⟩ | ⟨L, r, D, R, r8, hO, z1, z2⟩
  · obtain ⟨L1, s1, b1, b2, b3⟩ := z1 sA a3
    have fr1 : ∀ c, c ≠ 12 → (c < 14 ∨ 24 < c) → wr s1 12 2 0 c = s c := fun c h1 h2 => by rw [wr_ne _ _ _ h1, b2 c h1 h2, a2 c h1 h2]
    have k0 : ¬ nn k = 0 := fun y => by
      have := (nn_eq (j := 0) (by have := b3.2.2.2; omega) (by omega)).mp y
      have := b3.2.2.1
      omega
    have hC : LL_rules s = rI (-10 - nn q) (wr s1 12 2 0) := hLL _ _ (by rw [b1, rd_tell_1_61_eq, b3.1, if_neg k0, b3.2.1])
    have w12 : wr s1 12 2 0 12 2 = 0 := by rw [wr_at, upd_at]
    have w3 : wr s1 12 2 0 12 3 = nn k := by rw [wr_at, upd_ne (by decide)]; exact b3.1
    generalize wr s1 12 2 0 = sC at fr1 hC w12 w3
    have h197 : sC 197 = s 13 := by rw [fr1 197 (by decide) (by omega)]; exact er
    have h20 : sC 183 20 = nn n := by rw [fr1 183 (by decide) (by omega), et]; exact en
    obtain ⟨sB, d1, d2, d3⟩ := startM hn hB h197 h20
    obtain ⟨L2, s2, g1, g2, g3⟩ := z2 sB d3
    have fr2 := moFr_tr d2 g2
    have hp := FD_pos g3
    refine ⟨-10 - nn q, sC, wr s2 183 20 0, hC, ?_, ?_⟩
    · rw [d1, g1, mo_rules_44_eq, if_neg (nle0 hp), g3.1.2.2]
    · have fa : ∀ a, a ≠ 12 → (a < 14 ∨ 24 < a) → a ≠ 183 → a ≠ 193 → a ≠ 194 → a ≠ 196 → wr s2 183 20 0 a = s a := fun a h1 h2 h3 h4 h5 h6 => by rw [wr_ne _ _ _ h3, fr2.1 a h3 h4 h5 h6, fr1 a h1 h2]
      have ff : ∀ f, [17, 21, 22, 23, 24, 25, 26].contains f = false → f ≠ 20 → wr s2 183 20 0 183 f = s 183 f := fun f h1 h2 => by rw [wr_at, upd_ne h2, fr2.2 f h1, fr1 183 (by decide) (by omega)]
      have f12 : wr s2 183 20 0 12 = sC 12 := by rw [wr_ne _ _ _ (by decide), fr2.1 12 (by decide) (by decide) (by decide) (by decide)]
      have cR : ∀ a ∈ cR1, a ≠ 12 ∧ (a < 14 ∨ 24 < a) ∧ a ≠ 183 ∧ a ≠ 193 ∧ a ≠ 194 ∧ a ≠ 196 := by decide
      have cU : ∀ a ∈ cU1, a ≠ 12 ∧ (a < 14 ∨ 24 < a) ∧ a ≠ 183 ∧ a ≠ 193 ∧ a ≠ 194 ∧ a ≠ 196 := by decide
      have kR : ∀ f ∈ kR1, [17, 21, 22, 23, 24, 25, 26].contains f = false ∧ f ≠ 20 := by decide
      have kU : ∀ f ∈ kU1, [17, 21, 22, 23, 24, 25, 26].contains f = false ∧ f ≠ 20 := by decide
      refine J_butR ⟨fun a ha => ?_, fun f hf => ?_⟩ hJ (JR_fr ⟨fun a ha => ?_, fun f hf => ?_⟩ (J_R hJ)) ⟨⟨?_, ?_⟩, ?_, ?_, fun j => ?_⟩ (JU_fr ⟨fun a ha => ?_, fun f hf => ?_⟩ (J_U hJ))
      · obtain ⟨y1, y2, y3, y4, y5, y6, y7⟩ := uR_n a ha
        exact fa a (by omega) (Or.inr y1) y2 y4 y5 y7
      · obtain ⟨y1, y2, y3⟩ := vR_n f hf
        exact ff f y1 y2
      · obtain ⟨y1, y2, y3, y4, y5, y6⟩ := cR a ha
        exact fa a y1 y2 y3 y4 y5 y6
      · exact ff f (kR f hf).1 (kR f hf).2
      · rw [f12, w12, wr_at, upd_at]
      · rw [f12, w12]; exact ⟨by decide, by decide⟩
      · rw [f12, w3, wr_at, upd_ne (by decide)]; exact g3.1.2.1
      · rw [fa 197 (by decide) (by omega) (by decide) (by decide) (by decide) (by decide), fa 13 (by decide) (by omega) (by decide) (by decide) (by decide) (by decide)]; exact er
      · rw [fa 13 (by decide) (by omega) (by decide) (by decide) (by decide) (by decide)]; exact hb j
      · obtain ⟨y1, y2, y3, y4, y5, y6⟩ := cU a ha
        exact fa a y1 y2 y3 y4 y5 y6
      · exact ff f (kU f hf).1 (kU f hf).2
  · obtain ⟨s1, b1, b2, b3, b14, b15, b17⟩ := z1 sA a3
    obtain ⟨sC, c1, c2, c3, c4, c5⟩ := copyC (s := wr s1 12 2 0) (r := r) r8 (by rw [wr_ne _ _ _ (by decide)]; exact b14)
    have hC : LL_rules s = rI (nn L) sC := hLL _ _ (by rw [b1, rd_tell_1_61_eq, if_pos b3, c1, bV_rV])
    have fr1 : ∀ c, c ≠ 12 → c ≠ 1 → c ≠ 2 → (c < 4 ∨ 11 < c) → (c < 14 ∨ 24 < c) → sC c = s c := fun c h1 h2 h3 h4 h5 => by rw [c2 c h2 h3 h4, wr_ne _ _ _ h1, b2 c h1 h5, a2 c h1 h5]
    have w12 : sC 12 2 = 0 := by rw [c2 12 (by decide) (by decide) (by omega), wr_at, upd_at]
    have w3 : sC 12 3 = 0 := by rw [c2 12 (by decide) (by decide) (by omega), wr_at, upd_ne (by decide)]; exact b3
    have w2 : ∀ j, sC 2 j = if j < 8 then D j else s 2 j := fun j => by
      rw [c4 j, wr_ne _ _ _ (by decide), wr_ne _ _ _ (by decide), b2 2 (by decide) (by omega), a2 2 (by decide) (by omega)]
      by_cases e : j < 8
      · rw [if_pos e, if_pos e]; exact b15 j e
      · rw [if_neg e, if_neg e]
    have w4 : ∀ i k, i < r → k < 6 → sC (4 + i) k = R (6 * i + k) := fun i k hi hk => by rw [c5 i k hi hk, wr_ne _ _ _ (by omega)]; exact b17 i k hi hk
    have h197 : sC 197 = s 13 := by rw [fr1 197 (by decide) (by decide) (by decide) (by omega) (by omega)]; exact er
    have h20 : sC 183 20 = nn n := by rw [fr1 183 (by decide) (by decide) (by decide) (by omega) (by omega), et]; exact en
    obtain ⟨sB, d1, d2, d3⟩ := startM hn hB h197 h20
    obtain ⟨s2, g1, g2, g25, g17, g193, g196⟩ := z2 sB d3
    have fr2 := moFr_tr d2 g2
    obtain ⟨sF, e1, e2, e3, e4, e5, e6⟩ := copyM (wr s2 183 20 0) (nn L)
    refine ⟨nn L, sC, sF, hC, ?_, ?_⟩
    · rw [d1, g1, mo_rules_44_eq, if_pos (le0 g25)]; exact e1
    · have fa : ∀ a, a ≠ 183 → a ≠ 192 → a ≠ 193 → a ≠ 194 → a ≠ 195 → a ≠ 196 → sF a = sC a := fun a h1 h2 h3 h4 h5 h6 => by rw [e2 a h1 h2 h5, wr_ne _ _ _ h1, fr2.1 a h1 h3 h4 h6]
      have v15 : sF 183 15 = nn r := by rw [e4, wr_at, upd_ne (by decide)]; exact g17
      have v1 : sF 1 2 = nn r := by rw [fa 1 (by decide) (by decide) (by decide) (by decide) (by decide) (by decide)]; exact c3
      have v2 : ∀ j, sF 2 j = if j < 8 then D j else s 2 j := fun j => by rw [fa 2 (by decide) (by decide) (by decide) (by decide) (by decide) (by decide)]; exact w2 j
      have v192 : sF 192 = sF 2 := by
        funext j
        rw [v2 j, e5 j, wr_ne _ _ _ (by decide), wr_ne _ _ _ (by decide), fr2.1 192 (by decide) (by decide) (by decide) (by decide), fr1 192 (by decide) (by decide) (by decide) (by omega) (by omega), (J_R hJ).2.1]
        by_cases e : j < 8
        · rw [if_pos e, if_pos e]; exact g193 j e
        · rw [if_neg e, if_neg e]
      have v195 : ∀ m, m < 6 * r → sF 195 m = R m := fun m hm => by rw [e6 m (by omega), wr_ne _ _ _ (by decide)]; exact g196 m hm
      have ri : (nn r).toInt = r := nn_i (by omega)
      refine J_butR ⟨fun a ha => ?_, fun f hf => ?_⟩ hJ ⟨⟨?_, ?_⟩, v192, fun i k hi hi2 hk => ?_⟩ ⟨⟨?_, ?_⟩, ?_, ?_, fun j => ?_⟩ ⟨⟨?_, ?_, ?_, ?_, ?_, ?_, ?_, ?_⟩, fun i hi => ?_⟩
      · obtain ⟨y1, y2, y3, y4, y5, y6, y7⟩ := uR_n a ha
        rw [fa a y2 y3 y4 y5 y6 y7, fr1 a (by omega) (by omega) (by omega) (by omega) (Or.inr y1)]
      · obtain ⟨y1, y2, y3⟩ := vR_n f hf
        rw [e3 f y3, wr_at, upd_ne y2, fr2.2 f y1, fr1 183 (by decide) (by decide) (by decide) (by omega) (by omega)]
      · rw [v15, v1]
      · rw [v1]; exact nn_bd (by omega) (by omega)
      · rw [v1, ri] at hi2
        rw [fa (4 + i) (by omega) (by omega) (by omega) (by omega) (by omega) (by omega), w4 i k (by omega) hk, v195 (6 * i + k) (by omega)]
      · rw [e3 20 (by decide), wr_at, upd_at, fa 12 (by decide) (by decide) (by decide) (by decide) (by decide) (by decide), w12]
      · rw [fa 12 (by decide) (by decide) (by decide) (by decide) (by decide) (by decide), w12]; exact ⟨by decide, by decide⟩
      · rw [e3 25 (by decide), wr_at, upd_ne (by decide), g25, fa 12 (by decide) (by decide) (by decide) (by decide) (by decide) (by decide), w3]
      · rw [fa 197 (by decide) (by decide) (by decide) (by decide) (by decide) (by decide), h197, fa 13 (by decide) (by decide) (by decide) (by decide) (by decide) (by decide), fr1 13 (by decide) (by decide) (by decide) (by omega) (by omega)]
      · rw [fa 13 (by decide) (by decide) (by decide) (by decide) (by decide) (by decide), fr1 13 (by decide) (by decide) (by decide) (by omega) (by omega)]; exact hb j
      · rw [v2 0, if_pos (by omega)]; exact hO.1 0 (by omega)
      · rw [v2 1, if_pos (by omega)]; exact hO.1 1 (by omega)
      · rw [v2 2, if_pos (by omega)]; exact hO.1 2 (by omega)
      · rw [v2 3, if_pos (by omega)]; exact hO.1 3 (by omega)
      · rw [v2 4, if_pos (by omega)]; exact hO.1 4 (by omega)
      · rw [v2 5, if_pos (by omega)]; exact hO.1 5 (by omega)
      · rw [v2 6, if_pos (by omega)]; exact hO.1 6 (by omega)
      · rw [v2 7, if_pos (by omega)]; exact hO.1 7 (by omega)
      · rw [v1, ri] at hi
        have y := hO.2 i (by omega)
        rw [v195 (6 * i) (by omega), v195 (6 * i + 1) (by omega), v195 (6 * i + 3) (by omega), v195 (6 * i + 4) (by omega), v195 (6 * i + 5) (by omega)]
        exact y
end CRU
