/-! SAFE: the class's ties; is a set safe -/
def bX (X : Nat) : Nat → Bool := fun p => X.testBit p
def EN (t : mSt) (X : Nat) : Nat := nln t + ctN (bX X) (npl t)
def cfN (t : mSt) (X e : Nat) : Nat := if e < nln t then frN t e else pfN t (rkN (bX X) (npl t) (e - nln t))
def ctF (t : mSt) (X e : Nat) : Nat := if e < nln t then toN t e else ptN t (rkN (bX X) (npl t) (e - nln t))
def piN (t : mSt) (X e : Nat) : Nat := if e < nln t then e else 12 + rkN (bX X) (npl t) (e - nln t)
def q0N (t : mSt) (X k : Nat) : Bool := if k < 12 then decide (k < nln t) else X.testBit (k - 12)
def frA (t : mSt) (k : Nat) : Nat := if k < 12 then frN t k else pfN t (k - 12)
def toA (t : mSt) (k : Nat) : Nat := if k < 12 then toN t k else ptN t (k - 12)
def sfP (t : mSt) (X L : Nat) : Prop := ∀ a b, a < 20 → b < 20 → ∀ v w, L.testBit v = true → L.testBit w = true → lbM (qAB (q0N t X) a b) (frA t) (toA t) 20 v = lbM (qAB (q0N t X) a b) (frA t) (toA t) 20 w
def safL : List Nat := [170, 171, 172, 173, 174]
section SFC
variable {t s : mSt} {X L : Nat}
theorem bit_lt {X n p : Nat} (hX : X < 2 ^ n) (h : X.testBit p = true) : p < n := by
  rcases Nat.lt_or_ge p n with q | q
  · exact q
  · rw [Nat.testBit_lt_two_pow (Nat.lt_of_lt_of_le hX (Nat.pow_le_pow_right (by omega) q))] at h; cases h
theorem TM_ok (hJ : J t) (hX : X < 2 ^ npl t) : TM (q0N t X) (frA t) (toA t) (EN t X) (cfN t X) (ctF t X) (piN t X) := by
  obtain ⟨-, n12, -⟩ := nln_ok hJ
  obtain ⟨-, p8, -⟩ := npl_ok hJ
  have rk : ∀ e, e < EN t X → ¬ e < nln t → e - nln t < ctN (bX X) (npl t) := fun e he hn => by unfold EN at he; omega
  refine ⟨fun e he => ?_, fun e e' he he' h => ?_, fun e he => ?_, fun k hk hq => ?_⟩
  · unfold piN
    by_cases c : e < nln t
    · rw [if_pos c]; omega
    · rw [if_neg c]
      have := (rk_ok (p := bX X) (npl t) _ (rk e he c)).1
      omega
  · unfold piN at h
    by_cases c : e < nln t
    · by_cases c' : e' < nln t
      · rw [if_pos c, if_pos c'] at h; exact h
      · rw [if_pos c, if_neg c'] at h; omega
    · by_cases c' : e' < nln t
      · rw [if_neg c, if_pos c'] at h; omega
      · rw [if_neg c, if_neg c'] at h
        have := rk_inj (p := bX X) (npl t) _ _ (rk e he c) (rk e' he' c') (by omega)
        omega
  · unfold piN q0N frA toA cfN ctF
    by_cases c : e < nln t
    · rw [if_pos c, if_pos (show e < 12 by omega), if_pos (show e < 12 by omega), if_pos (show e < 12 by omega), if_pos c, if_pos c]
      exact ⟨decide_eq_true c, rfl, rfl⟩
    · have hr := rk_ok (p := bX X) (npl t) _ (rk e he c)
      rw [if_neg c, if_neg c, if_neg c]
      generalize rkN (bX X) (npl t) (e - nln t) = r at *
      have e12 : 12 + r - 12 = r := by omega
      rw [if_neg (show ¬ 12 + r < 12 by omega), if_neg (show ¬ 12 + r < 12 by omega), if_neg (show ¬ 12 + r < 12 by omega), e12]
      exact ⟨hr.2, rfl, rfl⟩
  · unfold q0N at hq
    unfold piN EN
    by_cases c : k < 12
    · rw [if_pos c] at hq
      have := of_decide_eq_true hq
      exact ⟨k, by omega, by rw [if_pos this]⟩
    · rw [if_neg c] at hq
      obtain ⟨i, i1, i2⟩ := rk_all (p := bX X) (npl t) (k - 12) (bit_lt hX hq) hq
      refine ⟨nln t + i, by omega, ?_⟩
      rw [if_neg (by omega), show nln t + i - nln t = i by omega, i2]
      omega
theorem addT {k : Nat} (hk : k < 20) (h : s 170 2 = nn k) (a b : Int32) : sa_addTie s a b = rV (wr (wr (wr s 171 k a) 172 k b) 170 2 (nn (k + 1))) := by
  rw [sa_addTie_eq, h, if_neg (show ¬ (20 : Int32) ≤ nn k from nle (i := 20) hk (by decide)), nn_b (i := k) (n := 20) hk (by decide), gd_t, gd_t, nn_n (by omega), nn_s]
theorem gatherT (hJ : J t) (hK : K t s) (hX : X < 2 ^ npl t) : ∃ s', sa_gatherTies s (nn X) = rV s' ∧ Ch safL [] s s' ∧ TS s' (EN t X) (cfN t X) (ctF t X) ∧ ∀ f, f ≠ 2 → s' 170 f = s 170 f := by
  obtain ⟨en, n12, -⟩ := nln_ok hJ
  obtain ⟨ep, p8, -⟩ := npl_ok hJ
  obtain ⟨-, d8, -⟩ := nld_ok hJ
  have hX8 : X < 256 := Nat.lt_of_lt_of_le hX (pow_le (by omega))
  obtain ⟨s1, e1, e2, e3, e4, e5⟩ := loopS (σ := mSt) (fun s1 k => sa_gatherTies_7 s1 (nn X) (nn k)) (nln t) (fun k s1 => Ch safL [] s s1 ∧ (∀ f, f ≠ 2 → s1 170 f = s 170 f) ∧ s1 170 2 = nn k ∧ ∀ e, e < k → s1 171 e = nn (frN t e) ∧ s1 172 e = nn (toN t e)) (i0 := 0) (s0 := wr s 170 2 0) (fun k s1 hk hI => by
    show ∃ s', sa_gatherTies_7 s1 (nn X) (nn k) = sa_gatherTies_7 s' (nn X) (nn (k + 1)) ∧ _
    obtain ⟨i1, i2, i3, i4⟩ := hI
    have hK1 : K t s1 := K_ch i1 rfl rfl hK
    obtain ⟨-, -, -, -, f5, f6, -⟩ := ft_ok hJ hk
    refine ⟨wr (wr (wr s1 171 k (nn (frN t k))) 172 k (nn (toN t k))) 170 2 (nn (k + 1)), ?_, Ch_w rfl rfl (Ch_w rfl rfl (Ch_w rfl rfl i1)), fun f hf => ?_, by rw [wr_at, upd_at], fun e he => ?_⟩
    · rw [sa_gatherTies_7_eq s1 (nn X) (nn k), K_at hK1 25 rfl, en, if_neg (nle hk (by omega)), nn_b (i := k) (n := 12) (by omega) (by decide), gd_t, gd_t, nn_n (by omega), K_at hK1 28 rfl, K_at hK1 29 rfl, addT (by omega) i3, bV_rV, ← f5, ← f6, nn_s]
    · rw [wr_at, upd_ne hf, wr_ne _ _ _ (by decide), wr_ne _ _ _ (by decide)]; exact i2 f hf
    · by_cases q : e = k
      · rw [q]
        exact ⟨by rw [wr_ne _ _ _ (by decide), wr_ne _ _ _ (by decide), wr_at, upd_at], by rw [wr_ne _ _ _ (by decide), wr_at, upd_at]⟩
      · refine ⟨?_, ?_⟩
        · rw [wr_ne _ _ _ (by decide), wr_ne _ _ _ (by decide), wr_at, upd_ne q]; exact (i4 e (by omega)).1
        · rw [wr_ne _ _ _ (by decide), wr_at, upd_ne q, wr_ne _ _ _ (by decide)]; exact (i4 e (by omega)).2) (Nat.zero_le _) ⟨Ch_w rfl rfl Ch_rf, fun f hf => by rw [wr_at, upd_ne hf], by rw [wr_at, upd_at]; rfl, fun e he => by omega⟩
  have e1 : sa_gatherTies_7 (wr s 170 2 0) (nn X) 0 = sa_gatherTies_7 s1 (nn X) (nn (nln t)) := e1
  obtain ⟨s2, g1, g2, g3, g4, g5, g6⟩ := loopS (σ := mSt) (fun s2 p => sa_gatherTies_48 s2 (nn X) (nn p)) (npl t) (fun p s2 => Ch safL [] s s2 ∧ (∀ f, f ≠ 2 → s2 170 f = s 170 f) ∧ s2 170 2 = nn (nln t + ctN (bX X) p) ∧ (∀ e, e < nln t → s2 171 e = nn (frN t e) ∧ s2 172 e = nn (toN t e)) ∧ ∀ i, i < ctN (bX X) p → s2 171 (nln t + i) = nn (pfN t (rkN (bX X) p i)) ∧ s2 172 (nln t + i) = nn (ptN t (rkN (bX X) p i))) (i0 := 0) (s0 := s1) (fun p s2 hp hI => by
    show ∃ s', sa_gatherTies_48 s2 (nn X) (nn p) = sa_gatherTies_48 s' (nn X) (nn (p + 1)) ∧ _
    obtain ⟨i1, i2, i3, i4, i5⟩ := hI
    have hK1 : K t s2 := K_ch i1 rfl rfl hK
    obtain ⟨-, -, f5, f6⟩ := pt_ok hJ hp
    have hle : ctN (bX X) p ≤ p := ctN_le _ _
    have ec : ctN (bX X) (p + 1) = ctN (bX X) p + (if bX X p = true then 1 else 0) := rfl
    have rks : ∀ i, rkN (bX X) (p + 1) i = if bX X p = true ∧ i = ctN (bX X) p then p else rkN (bX X) p i := fun _ => rfl
    have g28 : (s2 166 3) = nn (npl t) := by rw [K_at hK1 166 rfl, ep]
    by_cases b : X.testBit p = true
    · have b' : bX X p = true := b
      rw [if_pos b'] at ec
      refine ⟨wr (wr (wr s2 171 (nln t + ctN (bX X) p) (nn (pfN t p))) 172 (nln t + ctN (bX X) p) (nn (ptN t p))) 170 2 (nn (nln t + ctN (bX X) p + 1)), ?_, Ch_w rfl rfl (Ch_w rfl rfl (Ch_w rfl rfl i1)), fun f hf => ?_, by rw [wr_at, upd_at, ec]; rfl, fun e he => ?_, fun i hi => ?_⟩
      · rw [sa_gatherTies_48_eq s2 (nn X) (nn p), g28, if_neg (nle hp (by omega)), if_pos ((bis1 hX8 (by omega)).mpr b), nn_b (i := p) (n := 8) (by omega) (by decide), gd_t, gd_t, nn_n (by omega), K_at hK1 167 rfl, K_at hK1 168 rfl, addT (by omega) i3, bV_rV, ← f5, ← f6, nn_s]
      · rw [wr_at, upd_ne hf, wr_ne _ _ _ (by decide), wr_ne _ _ _ (by decide)]; exact i2 f hf
      · refine ⟨?_, ?_⟩
        · rw [wr_ne _ _ _ (by decide), wr_ne _ _ _ (by decide), wr_at, upd_ne (by omega)]; exact (i4 e he).1
        · rw [wr_ne _ _ _ (by decide), wr_at, upd_ne (by omega), wr_ne _ _ _ (by decide)]; exact (i4 e he).2
      · rw [rks]
        by_cases q : i = ctN (bX X) p
        · rw [if_pos ⟨b', q⟩, q]
          exact ⟨by rw [wr_ne _ _ _ (by decide), wr_ne _ _ _ (by decide), wr_at, upd_at], by rw [wr_ne _ _ _ (by decide), wr_at, upd_at]⟩
        · rw [if_neg (fun z => q z.2)]
          refine ⟨?_, ?_⟩
          · rw [wr_ne _ _ _ (by decide), wr_ne _ _ _ (by decide), wr_at, upd_ne (by omega)]; exact (i5 i (by omega)).1
          · rw [wr_ne _ _ _ (by decide), wr_at, upd_ne (by omega), wr_ne _ _ _ (by decide)]; exact (i5 i (by omega)).2
    · have b' : ¬ bX X p = true := b
      rw [if_neg b', Nat.add_zero] at ec
      refine ⟨s2, ?_, i1, i2, by rw [ec]; exact i3, i4, fun i hi => ?_⟩
      · rw [sa_gatherTies_48_eq s2 (nn X) (nn p), g28, if_neg (nle hp (by omega)), if_neg (fun z => b ((bis1 hX8 (by omega)).mp z)), nn_s]
      · rw [rks, if_neg (fun z => b' z.1)]
        exact i5 i (by omega)) (Nat.zero_le _) ⟨e2, e3, e4, e5, fun i hi => absurd hi (Nat.not_lt_zero _)⟩
  have g1 : sa_gatherTies_48 s1 (nn X) 0 = sa_gatherTies_48 s2 (nn X) (nn (npl t)) := g1
  have hle : ctN (bX X) (npl t) ≤ npl t := ctN_le _ _
  refine ⟨s2, ?_, g2, ⟨g4, by unfold EN; omega, fun e he => ?_⟩, g3⟩
  · rw [sa_gatherTies_eq, e1, sa_gatherTies_7_eq, K_at (K_ch e2 rfl rfl hK) 25 rfl, en, if_pos (yle (Nat.le_refl _) (by omega)), g1, sa_gatherTies_48_eq, K_at (K_ch g2 rfl rfl hK) 166 rfl, ep, if_pos (yle (Nat.le_refl _) (by omega))]
  · unfold EN at he
    unfold cfN ctF
    by_cases c : e < nln t
    · rw [if_pos c, if_pos c]
      obtain ⟨-, -, f3, f4, -⟩ := ft_ok hJ c
      exact ⟨(g5 e c).1, (g5 e c).2, by omega, by omega⟩
    · rw [if_neg c, if_neg c]
      have hi : e - nln t < ctN (bX X) (npl t) := by omega
      have := g6 (e - nln t) hi
      rw [show nln t + (e - nln t) = e by omega] at this
      have hr := pt_ok hJ (rk_ok (p := bX X) (npl t) _ hi).1
      exact ⟨this.1, this.2, by omega, by omega⟩
def tz2 (x0 x1 : Int32) : Int32 := if x0 ≤ 4 then x1 + (x0.toUInt32 >>> (Int32.toUInt32 1 &&& Int32.toUInt32 31)).toInt32 else (x1 + 2) + ((x0.toUInt32 >>> (Int32.toUInt32 2 &&& Int32.toUInt32 31)).toInt32.toUInt32 >>> (Int32.toUInt32 1 &&& Int32.toUInt32 31)).toInt32
def tz4 (x0 x1 : Int32) : Int32 := if x0 ≤ 16 then tz2 x0 x1 else tz2 (x0.toUInt32 >>> (Int32.toUInt32 4 &&& Int32.toUInt32 31)).toInt32 (x1 + 4)
def tz8 (x0 x1 : Int32) : Int32 := if x0 ≤ 256 then tz4 x0 x1 else tz4 (x0.toUInt32 >>> (Int32.toUInt32 8 &&& Int32.toUInt32 31)).toInt32 (x1 + 8)
def tzV (x0 : Int32) : Int32 := if (0 : Int32) < ((x0 ^^^ (-1)) &&& (x0 - 1)) then (if ((x0 ^^^ (-1)) &&& (x0 - 1)) ≤ 65536 then tz8 ((x0 ^^^ (-1)) &&& (x0 - 1)) 1 else tz8 (((x0 ^^^ (-1)) &&& (x0 - 1)).toUInt32 >>> (Int32.toUInt32 16 &&& Int32.toUInt32 31)).toInt32 17) else ((x0 ^^^ (-1)) &&& (x0 - 1)) &&& 32
theorem tzC (s : mSt) (x : Int32) : ig_numberOfTrailingZeros s x = rI (tzV x) s := by
  have h2 : ∀ a b, ig_numberOfTrailingZeros_62 s a b = rI (tz2 a b) s := fun a b => by
    rw [ig_numberOfTrailingZeros_62_eq]; unfold tz2; split <;> rfl
  have h4 : ∀ a b, ig_numberOfTrailingZeros_49 s a b = rI (tz4 a b) s := fun a b => by
    rw [ig_numberOfTrailingZeros_49_eq, h2, h2]; unfold tz4; split <;> rfl
  have h8 : ∀ a b, ig_numberOfTrailingZeros_34 s a b = rI (tz8 a b) s := fun a b => by
    rw [ig_numberOfTrailingZeros_34_eq, h4, h4]; unfold tz8; split <;> rfl
  rw [ig_numberOfTrailingZeros_eq, h8, h8]
  unfold tzV
  split
  · split <;> rfl
  · rfl
theorem tz_ok : ∀ L : Fin 256, (L.val = 0 ∧ tzV (nn L.val) = nn 32) ∨ ∃ k : Fin 8, tzV (nn L.val) = nn k.val ∧ L.val.testBit k.val = true ∧ ∀ j : Fin 8, j.val < k.val → L.val.testBit j.val = false := by decide +kernel
theorem isSafeC (hJ : J t) (hK : K t s) (hX : X < 2 ^ npl t) (hL : L < 2 ^ nld t) : ∃ (w : Bool) (s' : mSt), sa_isSafe s (nn X) (nn L) = rI (bi w) s' ∧ Ch safL [] s s' ∧ (∀ f, f ≠ 2 → s' 170 f = s 170 f) ∧ (w = true ↔ sfP t X L) := by
  obtain ⟨ed, d8, -⟩ := nld_ok hJ
  have hL8 : L < 256 := Nat.lt_of_lt_of_le hL (pow_le (by omega))
  obtain ⟨s1, a1, a2, a3, a4⟩ := gatherT hJ hK hX
  have M := TM_ok hJ hX
  have K1 : K t s1 := K_ch a2 rfl rfl hK
  rw [sa_isSafe_eq, a1, bV_rV, tzC, bI_rI]
  rcases tz_ok ⟨L, hL8⟩ with ⟨z1, z2⟩ | ⟨k, z1, z2, z3⟩
  · have z1 : L = 0 := z1
    have z2 : tzV (nn L) = nn 32 := z2
    refine ⟨true, s1, ?_, a2, a4, ⟨(fun _ => fun a b _ _ v w hv => by rw [z1, Nat.zero_testBit] at hv; cases hv), fun _ => rfl⟩⟩
    rw [z2, sa_isSafe_15_eq, K_at K1 25 rfl, ed, nn_s, if_pos (yle (by omega) (by omega))]
    rfl
  · have z1 : tzV (nn L) = nn k.val := z1
    have z2 : L.testBit k.val = true := z2
    have hkd := bit_lt hL z2
    have key := loopE (σ := mSt) (fun s2 y => sa_isSafe_15 s2 (nn L) (nn k.val) (nn y)) (nld t) (fun y s2 => Ch [173, 174] [] s1 s2 ∧ ∀ v, k.val < v → v < y → L.testBit v = true → ∀ a b, lbM (qAB (q0N t X) a b) (frA t) (toA t) 20 k.val = lbM (qAB (q0N t X) a b) (frA t) (toA t) 20 v) (fun o => ∃ s', o = rI 0 s' ∧ Ch [173, 174] [] s1 s' ∧ ¬ sfP t X L) (i0 := k.val + 1) (s0 := s1) (fun y s2 hy hI => by
      show (∃ s', sa_isSafe_15 s2 (nn L) (nn k.val) (nn y) = sa_isSafe_15 s' (nn L) (nn k.val) (nn (y + 1)) ∧ _) ∨ (∃ s', sa_isSafe_15 s2 (nn L) (nn k.val) (nn y) = rI 0 s' ∧ _)
      obtain ⟨i1, i2⟩ := hI
      have K2 : K t s2 := K_ch i1 rfl rfl K1
      rw [sa_isSafe_15_eq s2, K_at K2 25 rfl, ed, if_neg (nle hy (by omega)), nn_s]
      by_cases b : L.testBit y = true
      · rw [if_pos ((bis1 hL8 (by omega)).mpr b)]
        obtain ⟨w, s3, b1, b2, b3, b4⟩ := wellC (x := k.val) (y := y) (TS_ch a3 i1) k.isLt (by omega)
        rw [b1, bI_rI, bi_if]
        cases w with
        | true =>
          obtain ⟨u, hu⟩ := b3 rfl
          refine Or.inl ⟨s3, by rw [if_pos rfl], Ch_tr i1 b2, fun v h1 h2 h3 a b => ?_⟩
          by_cases q : v = y
          · rw [q]; exact cut3 M hu a b
          · exact i2 v h1 (by omega) h3 a b
        | false =>
          obtain ⟨S, u, f, f2, f3, f4, f5, f6⟩ := b4 rfl
          obtain ⟨a, b', ha, hb, hne⟩ := cut2 M f2 f3 f4 f5 f6
          exact Or.inr ⟨s3, by rw [if_neg (by decide)], Ch_tr i1 b2, fun h => hne (h a b' ha hb k.val y z2 b)⟩
      · rw [if_neg (fun z => b ((bis1 hL8 (by omega)).mp z))]
        refine Or.inl ⟨s2, rfl, i1, fun v h1 h2 h3 => ?_⟩
        have : v ≠ y := fun q => b (by rw [← q]; exact h3)
        exact i2 v h1 (by omega) h3) (by omega) ⟨Ch_rf, fun v h1 h2 => by omega⟩
    rw [z1, nn_s]
    rcases key with ⟨s2, f1, f2, f3⟩ | ⟨s2, f1, f2, f3⟩
    · have f1 : sa_isSafe_15 s1 (nn L) (nn k.val) (nn (k.val + 1)) = sa_isSafe_15 s2 (nn L) (nn k.val) (nn (nld t)) := f1
      refine ⟨true, s2, ?_, Ch_tr a2 (Ch_sub f2 rfl rfl), fun f hf => by rw [f2.1 170 rfl rfl]; exact a4 f hf, ⟨fun _ => fun a b _ _ v w hv hw => ?_, fun _ => rfl⟩⟩
      · rw [f1, sa_isSafe_15_eq, K_at (K_ch f2 rfl rfl K1) 25 rfl, ed, if_pos (yle (Nat.le_refl _) (by omega))]
        rfl
      · have one : ∀ v, L.testBit v = true → lbM (qAB (q0N t X) a b) (frA t) (toA t) 20 k.val = lbM (qAB (q0N t X) a b) (frA t) (toA t) 20 v := fun v hv => by
          have hvd := bit_lt hL hv
          by_cases q : v = k.val
          · rw [q]
          · by_cases l : v < k.val
            · have := z3 ⟨v, by omega⟩ l
              have this : L.testBit v = false := this
              rw [this] at hv; cases hv
            · exact f3 v (by omega) hvd hv a b
        rw [← one v hv, ← one w hw]
    · have f1 : sa_isSafe_15 s1 (nn L) (nn k.val) (nn (k.val + 1)) = rI 0 s2 := f1
      exact ⟨false, s2, f1, Ch_tr a2 (Ch_sub f2 rfl rfl), fun f hf => by rw [f2.1 170 rfl rfl]; exact a4 f hf, ⟨(fun w => by cases w), fun w => absurd w f3⟩⟩
end SFC
