/-! SAFE: the class's ties and its answer for two lands -/
theorem fill173 (s : mSt) : ∃ s', ay_fill_173 s 0 = rV s' ∧ Ch [173, 174] [] s s' ∧ ∀ k, k < 20 → s' 173 k = 0 := by
  obtain ⟨s1, e1, e2, e3⟩ := loopS (σ := mSt) (fun s1 k => ay_fill_173_5 s1 0 (nn k) 20) 20 (fun k s1 => Ch [173, 174] [] s s1 ∧ ∀ i, i < k → s1 173 i = 0) (i0 := 0) (s0 := s) (fun k s1 hk hI => by
    show ∃ s', ay_fill_173_5 s1 0 (nn k) 20 = ay_fill_173_5 s' 0 (nn (k + 1)) 20 ∧ _
    refine ⟨wr s1 173 k 0, ?_, Ch_w rfl rfl hI.1, fun i hi => ?_⟩
    · rw [ay_fill_173_5_eq s1 0 (nn k) 20, if_neg (show ¬ (20 : Int32) ≤ nn k from nle (i := 20) hk (by decide)), nn_b (i := k) (n := 20) hk (by decide), gd_t, nn_n (by omega), nn_s]
    · rw [wr_at]
      by_cases e : i = k
      · rw [e, upd_at]
      · rw [upd_ne e]; exact hI.2 i (by omega)) (by omega) ⟨Ch_rf, fun i hi => by omega⟩
  have e1 : ay_fill_173_5 s 0 0 20 = ay_fill_173_5 s1 0 (nn 20) 20 := e1
  refine ⟨s1, ?_, e2, e3⟩
  rw [ay_fill_173_eq, e1, ay_fill_173_5_eq, if_pos (by decide)]
theorem wellC {s0 : mSt} {E x y : Nat} {cf ct : Nat → Nat} (hT : TS s0 E cf ct) (hx : x < 8) (hy : y < 8) : ∃ (w : Bool) (s' : mSt), sa_areJoinedWell s0 (nn x) (nn y) = rI (bi w) s' ∧ Ch [173, 174] [] s0 s' ∧ (w = true → ∃ u : Nat → Int32, ∀ S : Nat → Bool, nfS S cf ct u E = 3 * (iB (S x) - iB (S y))) ∧ (w = false → ∃ (S : Nat → Bool) (u : Nat → Int32) (f : Nat), f ≤ 2 ∧ nfS S cf ct u E = f * (iB (S x) - iB (S y)) ∧ S x = true ∧ S y = false ∧ ∀ e, e < E → (S (cf e) = true → S (ct e) = false → u e = 1) ∧ (S (cf e) = false → S (ct e) = true → u e = 2)) := by
  have h20 := hT.2.1
  obtain ⟨s1, a1, a2, a3⟩ := fill173 s0
  have key := loopE (σ := mSt) (fun s f => sa_areJoinedWell_10 s (nn x) (nn y) (nn f)) 3 (fun f s => Ch [173, 174] [] s0 s ∧ us3 s E ∧ ∀ S : Nat → Bool, nfS S cf ct (s 173) E = f * (iB (S x) - iB (S y))) (fun o => ∃ s', o = rI 0 s' ∧ Ch [173, 174] [] s0 s' ∧ ∃ (S : Nat → Bool) (u : Nat → Int32) (f : Nat), f ≤ 2 ∧ nfS S cf ct u E = f * (iB (S x) - iB (S y)) ∧ S x = true ∧ S y = false ∧ ∀ e, e < E → (S (cf e) = true → S (ct e) = false → u e = 1) ∧ (S (cf e) = false → S (ct e) = true → u e = 2)) (i0 := 0) (s0 := s1) (fun f s hf hI => by
    show (∃ s', sa_areJoinedWell_10 s (nn x) (nn y) (nn f) = sa_areJoinedWell_10 s' (nn x) (nn y) (nn (f + 1)) ∧ _) ∨ (∃ s', sa_areJoinedWell_10 s (nn x) (nn y) (nn f) = rI 0 s' ∧ _)
    obtain ⟨i1, i2, i3⟩ := hI
    obtain ⟨R, d, s2, b1, b2, b3⟩ := spreadC (TS_ch hT i1) hx hy
    have c2 : Ch [173, 174] [] s0 s2 := Ch_tr i1 (Ch_sub b2.1 rfl rfl)
    rw [sa_areJoinedWell_10_eq s, if_neg (show ¬ (3 : Int32) ≤ nn f from nle (i := 3) hf (by decide)), b1, bI_rI, bi_if]
    cases q : R.testBit y with
    | false =>
      refine Or.inr ⟨s2, by rw [if_neg (by decide)], c2, fun v => R.testBit v, s 173, f, by omega, i3 _, b2.2.2.1, q, b3⟩
    | true =>
      have hd := b2.2.2.2.2.1 y q
      have hp : pcN R 8 ≤ 8 := ctN_le _ _
      have e173 : s2 173 = s 173 := b2.1.1 173 rfl rfl
      obtain ⟨s3, g1, g2, g3, g4⟩ := giveC (TS_ch hT i1) hx b2 i2 (d y) y s2 0 q rfl (by omega) Ch_rf rfl (fun e he => by rw [e173]; exact i2 e he) (fun w e p _ _ _ _ _ _ _ => by rw [e173])
      refine Or.inl ⟨s3, ?_, Ch_tr c2 g2, g3, fun S => ?_⟩
      · have g1 : sa_giveBack_5 s2 (nn x) (nn y) 0 = rV s3 := g1
        rw [if_pos rfl, sa_giveBack_eq, g1, bV_rV, nn_s]
      · rw [g4 S, e173, i3 S]
        generalize iB (S x) - iB (S y) = z
        rw [Int.natCast_add, Int.add_mul]
        omega) (by omega) ⟨a2, fun e he => Or.inl (a3 e (by omega)), fun S => by rw [nf_zero (fun e he => a3 e (by omega))]; omega⟩
  rw [sa_areJoinedWell_eq, a1, bV_rV]
  rcases key with ⟨s2, f1, f2, f3, f4⟩ | ⟨s2, f1, f2, f3⟩
  · have f1 : sa_areJoinedWell_10 s1 (nn x) (nn y) 0 = sa_areJoinedWell_10 s2 (nn x) (nn y) (nn 3) := f1
    refine ⟨true, s2, ?_, f2, fun _ => ⟨s2 173, f4⟩, fun w => by cases w⟩
    rw [f1, sa_areJoinedWell_10_eq, if_pos (by decide)]
    rfl
  · have f1 : sa_areJoinedWell_10 s1 (nn x) (nn y) 0 = rI 0 s2 := f1
    exact ⟨false, s2, f1, f2, (fun w => by cases w), fun _ => f3⟩
/-! the chosen ones in their order -/
def rkN (p : Nat → Bool) : Nat → Nat → Nat
  | 0, _ => 0
  | n + 1, i => if p n = true ∧ i = ctN p n then n else rkN p n i
section RNK
variable {p : Nat → Bool}
theorem rk_lo {n k : Nat} (hk : k < ctN p (n + 1)) (c : ¬ (p n = true ∧ k = ctN p n)) : k < ctN p n := by
  have ec : ctN p (n + 1) = ctN p n + (if p n = true then 1 else 0) := rfl
  rw [ec] at hk
  by_cases w : p n = true
  · rw [if_pos w] at hk
    have : k ≠ ctN p n := fun e => c ⟨w, e⟩
    omega
  · rw [if_neg w] at hk; omega
theorem rk_ok (n : Nat) : ∀ i, i < ctN p n → rkN p n i < n ∧ p (rkN p n i) = true := by
  induction n with
  | zero => intro i hi; exact absurd hi (Nat.not_lt_zero _)
  | succ n ih =>
    intro i hi
    show (if p n = true ∧ i = ctN p n then n else rkN p n i) < n + 1 ∧ p (if p n = true ∧ i = ctN p n then n else rkN p n i) = true
    by_cases c : p n = true ∧ i = ctN p n
    · rw [if_pos c]; exact ⟨by omega, c.1⟩
    · rw [if_neg c]
      have := ih i (rk_lo hi c)
      exact ⟨by omega, this.2⟩
theorem rk_inj (n : Nat) : ∀ i j, i < ctN p n → j < ctN p n → rkN p n i = rkN p n j → i = j := by
  induction n with
  | zero => intro i j hi; exact absurd hi (Nat.not_lt_zero _)
  | succ n ih =>
    intro i j hi hj h
    have h : (if p n = true ∧ i = ctN p n then n else rkN p n i) = (if p n = true ∧ j = ctN p n then n else rkN p n j) := h
    by_cases ci : p n = true ∧ i = ctN p n
    · by_cases cj : p n = true ∧ j = ctN p n
      · omega
      · rw [if_pos ci, if_neg cj] at h
        have := (rk_ok n j (rk_lo hj cj)).1
        omega
    · by_cases cj : p n = true ∧ j = ctN p n
      · rw [if_neg ci, if_pos cj] at h
        have := (rk_ok n i (rk_lo hi ci)).1
        omega
      · rw [if_neg ci, if_neg cj] at h
        exact ih i j (rk_lo hi ci) (rk_lo hj cj) h
theorem rk_all (n : Nat) : ∀ q, q < n → p q = true → ∃ i, i < ctN p n ∧ rkN p n i = q := by
  induction n with
  | zero => intro q hq; omega
  | succ n ih =>
    intro q hq hp
    have ec : ctN p (n + 1) = ctN p n + (if p n = true then 1 else 0) := rfl
    by_cases e : q = n
    · refine ⟨ctN p n, ?_, ?_⟩
      · rw [ec, ← e, if_pos hp]; omega
      · show (if p n = true ∧ ctN p n = ctN p n then n else _) = q
        rw [if_pos ⟨by rw [← e]; exact hp, rfl⟩, e]
    · obtain ⟨i, i1, i2⟩ := ih q (by omega) hp
      refine ⟨i, ?_, ?_⟩
      · rw [ec]; omega
      · show (if p n = true ∧ i = ctN p n then n else rkN p n i) = q
        rw [if_neg (fun z => by omega), i2]
end RNK
def pfN (t : mSt) (k : Nat) : Nat := (t 167 k).toNatClampNeg
def ptN (t : mSt) (k : Nat) : Nat := (t 168 k).toNatClampNeg
theorem pt_ok {t : mSt} (hJ : J t) {k : Nat} (hk : k < npl t) : pfN t k < nld t ∧ ptN t k < nld t ∧ t 167 k = nn (pfN t k) ∧ t 168 k = nn (ptN t k) := by
  obtain ⟨-, -, ei⟩ := npl_ok hJ
  obtain ⟨-, h8, ld⟩ := nld_ok hJ
  obtain ⟨⟨⟨a1, a2⟩, ⟨b1, b2⟩, -⟩, -⟩ := (J_P hJ).2.2 k (by omega)
  obtain ⟨c1, c2⟩ := (J_X hJ).2 k (by omega)
  have e1 := nn_x a1
  have e2 := nn_x b1
  have q1 : (t 167 k).toInt = (pfN t k : Int) := by
    have := Int32.toNat_toInt (t 167 k)
    unfold pfN
    omega
  have q2 : (t 168 k).toInt = (ptN t k : Int) := by
    have := Int32.toNat_toInt (t 168 k)
    unfold ptN
    omega
  exact ⟨by omega, by omega, e1, e2⟩
