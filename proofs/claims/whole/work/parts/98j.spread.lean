/-! SAFE: the class finds ways -/
def TS (s : mSt) (E : Nat) (cf ct : Nat → Nat) : Prop := s 170 2 = nn E ∧ E ≤ 20 ∧ ∀ e, e < E → s 171 e = nn (cf e) ∧ s 172 e = nn (ct e) ∧ cf e < 8 ∧ ct e < 8
def clP (cf ct : Nat → Nat) (u : Nat → Int32) (R e : Nat) : Prop := (R.testBit (cf e) = true → R.testBit (ct e) = false → u e = 1) ∧ (R.testBit (cf e) = false → R.testBit (ct e) = true → u e = 2)
def edP (cf ct : Nat → Nat) (u : Nat → Int32) (e v p : Nat) : Prop := (ct e = v ∧ cf e = p ∧ u e ≠ 1) ∨ (ct e ≠ v ∧ cf e = v ∧ ct e = p ∧ u e ≠ 2)
def SP (s0 : mSt) (E : Nat) (cf ct : Nat → Nat) (x R : Nat) (d : Nat → Nat) (s : mSt) : Prop := Ch [174] [] s0 s ∧ R < 256 ∧ R.testBit x = true ∧ d x = 0 ∧ (∀ v, R.testBit v = true → d v < pcN R 8) ∧ ∀ v, R.testBit v = true → v ≠ x → ∃ e p, e < E ∧ s 174 v = nn e ∧ R.testBit p = true ∧ d v = d p + 1 ∧ edP cf ct (s0 173) e v p
section SPR
variable {s s0 : mSt} {E x y R : Nat} {cf ct d : Nat → Nat}
theorem TS_ch {s' : mSt} (h : TS s E cf ct) (c : Ch [173, 174] [] s s') : TS s' E cf ct := ⟨by rw [c.1 170 rfl rfl]; exact h.1, h.2.1, fun e he => by rw [c.1 171 rfl rfl, c.1 172 rfl rfl]; exact h.2.2 e he⟩
theorem pc_add {R v : Nat} (hv : v < 8) (h : R.testBit v = false) : pcN (R ||| 2 ^ v) 8 = pcN R 8 + 1 := ctN_del hv (by rw [tb_or, decide_eq_true rfl, Bool.or_true]) h (fun i hi => by rw [tb_or, decide_eq_false (fun z => hi z.symm), Bool.or_false])
theorem SP_add (h : SP s0 E cf ct x R d s) {v e p : Nat} (hv : v < 8) (hn : R.testBit v = false) (he : e < E) (hp : R.testBit p = true) (hd : edP cf ct (s0 173) e v p) : ∃ d', SP s0 E cf ct x (R ||| 2 ^ v) d' (wr s 174 v (nn e)) := by
  obtain ⟨h1, h2, h3, h4, h5, h6⟩ := h
  have ne : ∀ w, R.testBit w = true → w ≠ v := fun w hw z => by rw [z, hn] at hw; cases hw
  have hpc := pc_add hv hn
  refine ⟨fun w => if w = v then d p + 1 else d w, Ch_w rfl rfl h1, or_lt (n := 8) h2 hv, by rw [tb_or, h3, Bool.true_or], ?_, fun w hw => ?_, fun w hw hx => ?_⟩
  · show (if x = v then _ else d x) = 0
    rw [if_neg (ne x h3)]; exact h4
  · show (if w = v then d p + 1 else d w) < _
    by_cases e' : w = v
    · rw [if_pos e', hpc]
      have := h5 p hp
      omega
    · rw [if_neg e', hpc]
      rw [tb_or, decide_eq_false (fun z => e' z.symm), Bool.or_false] at hw
      have := h5 w hw
      omega
  · by_cases e' : w = v
    · refine ⟨e, p, he, by rw [e', wr_at, upd_at], by rw [tb_or, hp, Bool.true_or], ?_, by rw [e']; exact hd⟩
      show (if w = v then d p + 1 else d w) = (if p = v then d p + 1 else d p) + 1
      rw [if_pos e', if_neg (ne p hp)]
    · rw [tb_or, decide_eq_false (fun z => e' z.symm), Bool.or_false] at hw
      obtain ⟨e2, p2, a1, a2, a3, a4, a5⟩ := h6 w hw hx
      refine ⟨e2, p2, a1, by rw [wr_at, upd_ne e']; exact a2, by rw [tb_or, a3, Bool.true_or], ?_, a5⟩
      show (if w = v then d p + 1 else d w) = (if p2 = v then d p + 1 else d p2) + 1
      rw [if_neg e', if_neg (ne p2 a3)]; exact a4
theorem roundC (hT : TS s0 E cf ct) (h : SP s0 E cf ct x R d s) (z r : Int32) : ∃ R' d' s' g, sa_spread_28 s z (nn R) 0 r 0 = sa_spread_10 s' z (nn R') (bi g) (r + 1) ∧ SP s0 E cf ct x R' d' s' ∧ (g = true → pcN R 8 + 1 ≤ pcN R' 8) ∧ (g = false → ∀ e, e < E → clP cf ct (s0 173) R' e) := by
  obtain ⟨t1, t2, t3⟩ := hT
  obtain ⟨⟨s1, R1, d1, g1⟩, e1, e2, e3, e4⟩ := loopS (σ := mSt × Nat × (Nat → Nat) × Bool) (fun q e => sa_spread_28 q.1 z (nn q.2.1) (bi q.2.2.2) r (nn e)) E (fun e q => SP s0 E cf ct x q.2.1 q.2.2.1 q.1 ∧ (q.2.2.2 = true → pcN R 8 + 1 ≤ pcN q.2.1 8) ∧ (q.2.2.2 = false → pcN R 8 ≤ pcN q.2.1 8 ∧ ∀ i, i < e → clP cf ct (s0 173) q.2.1 i)) (i0 := 0) (s0 := (s, R, d, false)) (fun e q he hI => by
    obtain ⟨s1, R1, d1, g1⟩ := q
    show ∃ q' : mSt × Nat × (Nat → Nat) × Bool, sa_spread_28 s1 z (nn R1) (bi g1) r (nn e) = sa_spread_28 q'.1 z (nn q'.2.1) (bi q'.2.2.2) r (nn (e + 1)) ∧ _
    obtain ⟨i1, i2, i3⟩ := hI
    have i1 : SP s0 E cf ct x R1 d1 s1 := i1
    have i2 : g1 = true → pcN R 8 + 1 ≤ pcN R1 8 := i2
    have i3 : g1 = false → pcN R 8 ≤ pcN R1 8 ∧ ∀ i, i < e → clP cf ct (s0 173) R1 i := i3
    obtain ⟨a1, a2, a3, a4⟩ := t3 e he
    have c1 := i1.1
    have hR : R1 < 256 := i1.2.1
    have hE : inb (nn e) 20 = true := nn_b (i := e) (n := 20) (by omega) (by decide)
    have g0 : ∀ b : Bool, (if b = true then (1 : Int32) else 0) = bi b := fun b => by cases b <;> rfl
    have s28 : sa_spread_28 s1 z (nn R1) (bi g1) r (nn e) = sa_spread_79 s1 z (nn R1) (bi g1) r (nn e) (bi (R1.testBit (cf e))) (bi (R1.testBit (ct e))) := by
      rw [sa_spread_28_eq, c1.1 170 rfl rfl, t1, if_neg (nle he (by omega)), hE, gd_t, nn_n (by omega), c1.1 171 rfl rfl, a1]
      have h57 : ∀ t0, sa_spread_57 s1 z (nn R1) (bi g1) r (nn e) t0 = sa_spread_79 s1 z (nn R1) (bi g1) r (nn e) t0 (bi (R1.testBit (ct e))) := fun t0 => by
        rw [sa_spread_57_eq, hE, gd_t, nn_n (by omega), c1.1 172 rfl rfl, a2]
        cases q : R1.testBit (ct e) with
        | true => rw [if_pos ((bis1 (by omega) a4).mpr q)]; rfl
        | false => rw [if_neg (fun w => by rw [(bis1 (by omega) a4).mp w] at q; cases q)]; rfl
      rw [h57, h57]
      cases q : R1.testBit (cf e) with
      | true => rw [if_pos ((bis1 (by omega) a3).mpr q)]; rfl
      | false => rw [if_neg (fun w => by rw [(bis1 (by omega) a3).mp w] at q; cases q)]; rfl
    have e173 : s1 173 e = s0 173 e := by rw [c1.1 173 rfl rfl]
    have e172 : s1 172 e = nn (ct e) := by rw [c1.1 172 rfl rfl, a2]
    have e171 : s1 171 e = nn (cf e) := by rw [c1.1 171 rfl rfl, a1]
    have stay : clP cf ct (s0 173) R1 e → ∃ q' : mSt × Nat × (Nat → Nat) × Bool, sa_spread_28 s1 z (nn R1) (bi g1) r (nn (e + 1)) = sa_spread_28 q'.1 z (nn q'.2.1) (bi q'.2.2.2) r (nn (e + 1)) ∧ SP s0 E cf ct x q'.2.1 q'.2.2.1 q'.1 ∧ (q'.2.2.2 = true → pcN R 8 + 1 ≤ pcN q'.2.1 8) ∧ (q'.2.2.2 = false → pcN R 8 ≤ pcN q'.2.1 8 ∧ ∀ i, i < e + 1 → clP cf ct (s0 173) q'.2.1 i) := fun hc => ⟨(s1, R1, d1, g1), rfl, i1, i2, fun w => ⟨(i3 w).1, fun i hi => by
      by_cases q : i = e
      · rw [q]; exact hc
      · exact (i3 w).2 i (by omega)⟩⟩
    have hge : pcN R 8 ≤ pcN R1 8 := by
      cases g1 with
      | true => have := i2 rfl; omega
      | false => exact (i3 rfl).1
    have add : ∀ v p, v < 8 → R1.testBit v = false → R1.testBit p = true → edP cf ct (s0 173) e v p → ∃ q' : mSt × Nat × (Nat → Nat) × Bool, sa_spread_28 (wr s1 174 v (nn e)) z (nn (R1 ||| 2 ^ v)) 1 r (nn (e + 1)) = sa_spread_28 q'.1 z (nn q'.2.1) (bi q'.2.2.2) r (nn (e + 1)) ∧ SP s0 E cf ct x q'.2.1 q'.2.2.1 q'.1 ∧ (q'.2.2.2 = true → pcN R 8 + 1 ≤ pcN q'.2.1 8) ∧ (q'.2.2.2 = false → pcN R 8 ≤ pcN q'.2.1 8 ∧ ∀ i, i < e + 1 → clP cf ct (s0 173) q'.2.1 i) := fun v p hv hn hp hd => by
      obtain ⟨d', h'⟩ := SP_add i1 hv hn he hp hd
      have hpc := pc_add hv hn
      exact ⟨(wr s1 174 v (nn e), R1 ||| 2 ^ v, d', true), rfl, h', fun _ => by show _ ≤ pcN (R1 ||| 2 ^ v) 8; omega, fun w => by cases w⟩
    rw [s28, sa_spread_79_eq]
    have b0 : bi false = 0 := rfl
    have b1 : ¬ bi true = 0 := by decide
    cases qa : R1.testBit (cf e) with
    | false =>
      rw [if_pos b0, sa_spread_134_eq]
      cases qb : R1.testBit (ct e) with
      | false =>
        rw [if_pos b0, nn_s]
        exact stay ⟨(fun w => by rw [qa] at w; cases w), (fun _ w => by rw [qb] at w; cases w)⟩
      | true =>
        rw [if_neg b1, if_pos b0, hE, gd_t, nn_n (by omega), e173]
        by_cases k : s0 173 e = 2
        · rw [if_pos k, nn_s]
          exact stay ⟨(fun w => by rw [qa] at w; cases w), fun _ _ => k⟩
        · rw [if_neg k, e171, nn_b (i := cf e) (n := 8) a3 (by decide), gd_t, gd_t, gd_t, nn_n (by omega), bor hR a3, nn_s]
          exact add (cf e) (ct e) a3 qa qb (Or.inr ⟨(fun w => by rw [w, qa] at qb; cases qb), rfl, rfl, k⟩)
    | true =>
      rw [if_neg b1]
      cases qb : R1.testBit (ct e) with
      | false =>
        rw [if_pos b0, hE, gd_t, nn_n (by omega), e173]
        by_cases k : s0 173 e = 1
        · rw [if_pos k, sa_spread_134_eq, if_pos b0, nn_s]
          exact stay ⟨fun _ _ => k, (fun w => by rw [qa] at w; cases w)⟩
        · rw [if_neg k, e172, nn_b (i := ct e) (n := 8) a4 (by decide), gd_t, gd_t, gd_t, nn_n (by omega), bor hR a4, nn_s]
          exact add (ct e) (cf e) a4 qb qa (Or.inl ⟨rfl, rfl, k⟩)
      | true =>
        rw [if_neg b1, sa_spread_134_eq, if_neg b1, if_neg b1, nn_s]
        exact stay ⟨(fun _ w => by rw [qb] at w; cases w), (fun w => by rw [qa] at w; cases w)⟩) (Nat.zero_le _) ⟨h, (fun w => by cases w), fun _ => ⟨Nat.le_refl _, fun i hi => by omega⟩⟩
  have e1 : sa_spread_28 s z (nn R) 0 r 0 = sa_spread_28 s1 z (nn R1) (bi g1) r (nn E) := e1
  have e2 : SP s0 E cf ct x R1 d1 s1 := e2
  have e3 : g1 = true → pcN R 8 + 1 ≤ pcN R1 8 := e3
  have e4 : g1 = false → pcN R 8 ≤ pcN R1 8 ∧ ∀ i, i < E → clP cf ct (s0 173) R1 i := e4
  refine ⟨R1, d1, s1, g1, ?_, e2, e3, fun w => (e4 w).2⟩
  rw [e1, sa_spread_28_eq, e2.1.1 170 rfl rfl, t1, if_pos (yle (Nat.le_refl _) (by omega))]
theorem spreadC (hT : TS s0 E cf ct) (hx : x < 8) (hy : y < 8) : ∃ (R : Nat) (d : Nat → Nat) (s' : mSt), sa_spread s0 (nn x) (nn y) = rI (bi (R.testBit y)) s' ∧ SP s0 E cf ct x R d s' ∧ ∀ e, e < E → clP cf ct (s0 173) R e := by
  have h2 : 2 ^ x < 2 ^ 8 := Nat.pow_lt_pow_right (by omega) hx
  have h2 : 2 ^ x < 256 := h2
  have pc1 : pcN (2 ^ x) 8 = 1 := by
    have := pc_add (R := 0) hx (Nat.zero_testBit x)
    rw [Nat.zero_or] at this
    rw [this, show pcN 0 8 = 0 by decide]
  have S0 : SP s0 E cf ct x (2 ^ x) (fun _ => 0) s0 := ⟨Ch_rf, h2, by rw [Nat.testBit_two_pow, decide_eq_true rfl], rfl, fun v _ => by rw [pc1]; exact Nat.zero_lt_one, fun v hv hne => by
    rw [Nat.testBit_two_pow] at hv
    exact absurd (of_decide_eq_true hv).symm hne⟩
  have key := loopE (σ := mSt × Nat × (Nat → Nat)) (fun q r => sa_spread_10 q.1 (nn y) (nn q.2.1) 1 (nn r)) 8 (fun r q => SP s0 E cf ct x q.2.1 q.2.2 q.1 ∧ r + 1 ≤ pcN q.2.1 8) (fun o => ∃ (R : Nat) (d : Nat → Nat) (s' : mSt), o = rI (bi (R.testBit y)) s' ∧ SP s0 E cf ct x R d s' ∧ ∀ e, e < E → clP cf ct (s0 173) R e) (i0 := 0) (s0 := (s0, 2 ^ x, fun _ => 0)) (fun r q hr hI => by
    obtain ⟨s1, R1, d1⟩ := q
    show (∃ q' : mSt × Nat × (Nat → Nat), sa_spread_10 s1 (nn y) (nn R1) 1 (nn r) = sa_spread_10 q'.1 (nn y) (nn q'.2.1) 1 (nn (r + 1)) ∧ _) ∨ (∃ (R : Nat) (d : Nat → Nat) (s' : mSt), sa_spread_10 s1 (nn y) (nn R1) 1 (nn r) = rI (bi (R.testBit y)) s' ∧ _)
    obtain ⟨i1, i2⟩ := hI
    have i2 : r + 1 ≤ pcN R1 8 := i2
    obtain ⟨R2, d2, s2, g, a1, a2, a3, a4⟩ := roundC (z := nn y) (r := nn r) hT i1
    have st : sa_spread_10 s1 (nn y) (nn R1) 1 (nn r) = sa_spread_10 s2 (nn y) (nn R2) (bi g) (nn (r + 1)) := by
      rw [sa_spread_10_eq s1, if_neg (show ¬ (1 : Int32) = 0 by decide), if_neg (show ¬ (8 : Int32) ≤ nn r from nle (i := 8) hr (by decide)), a1, nn_s]
    cases g with
    | true => exact Or.inl ⟨(s2, R2, d2), st, a2, by have := a3 rfl; show r + 1 + 1 ≤ pcN R2 8; omega⟩
    | false =>
      refine Or.inr ⟨R2, d2, s2, ?_, a2, a4 rfl⟩
      rw [st, sa_spread_10_eq, if_pos (show bi false = 0 from rfl), sa_spread_196_eq]
      cases q : R2.testBit y with
      | true => rw [if_pos ((bis1 a2.2.1 hy).mpr q)]; rfl
      | false => rw [if_neg (fun w => by rw [(bis1 a2.2.1 hy).mp w] at q; cases q)]; rfl) (Nat.zero_le _) ⟨S0, by show 1 ≤ pcN (2 ^ x) 8; omega⟩
  have est : sa_spread s0 (nn x) (nn y) = sa_spread_10 s0 (nn y) (nn (2 ^ x)) 1 0 := by
    rw [sa_spread_eq, bpow (by omega)]
  rcases key with ⟨⟨s1, R1, d1⟩, -, f2, f3⟩ | f
  · exfalso
    have f3 : 8 + 1 ≤ pcN R1 8 := f3
    have : pcN R1 8 ≤ 8 := ctN_le _ _
    omega
  · rw [est]; exact f
def us3 (s : mSt) (E : Nat) : Prop := ∀ e, e < E → s 173 e = 0 ∨ s 173 e = 1 ∨ s 173 e = 2
theorem giveC (hT : TS s0 E cf ct) (hx : x < 8) (h : SP s0 E cf ct x R d s) (hu : us3 s0 E) : ∀ δ v s1 k, R.testBit v = true → d v = δ → δ + k ≤ 7 → Ch [173, 174] [] s s1 → s1 174 = s 174 → us3 s1 E → (∀ w e p, R.testBit w = true → d w ≤ δ → w ≠ x → s 174 w = nn e → e < E → d w = d p + 1 → edP cf ct (s0 173) e w p → s1 173 e = s0 173 e) → ∃ s2, sa_giveBack_5 s1 (nn x) (nn v) (nn k) = rV s2 ∧ Ch [173, 174] [] s s2 ∧ us3 s2 E ∧ ∀ S : Nat → Bool, nfS S cf ct (s2 173) E = nfS S cf ct (s1 173) E + (iB (S x) - iB (S v)) := by
  obtain ⟨h1, h2, h3, h4, h5, h6⟩ := h
  have bl : ∀ v, R.testBit v = true → v < 8 := fun v hv => by
    rcases Nat.lt_or_ge v 8 with q | q
    · exact q
    · rw [Nat.testBit_lt_two_pow (Nat.lt_of_lt_of_le h2 (Nat.pow_le_pow_right (n := 2) (by omega) q))] at hv; cases hv
  intro δ
  induction δ with
  | zero =>
    intro v s1 k hv hd hk c1 _ u1 _
    have hvx : v = x := by
      by_cases q : v = x
      · exact q
      · obtain ⟨e, p, -, -, -, a4, -⟩ := h6 v hv q
        omega
    refine ⟨s1, ?_, c1, u1, fun S => by rw [hvx]; omega⟩
    rw [sa_giveBack_5_eq, if_neg (show ¬ (8 : Int32) ≤ nn k from nle (i := 8) (by omega) (by decide)), if_pos (by rw [hvx])]
  | succ δ ih =>
    intro v s1 k hv hd hk c1 r174 u1 ho
    by_cases hvx : v = x
    · rw [hvx] at hd; omega
    obtain ⟨e, p, a1, a2, a3, a4, a5⟩ := h6 v hv hvx
    have hu0 := ho v e p hv (by omega) hvx a2 a1 a4 a5
    have hT1 : TS s1 E cf ct := TS_ch (TS_ch hT (Ch_sub h1 rfl rfl)) c1
    obtain ⟨t1, t2, t3⟩ := hT1
    obtain ⟨b1, b2, b3, b4⟩ := t3 e a1
    have hv8 := bl v hv
    have hp8 := bl p a3
    have hE : inb (nn e) 20 = true := nn_b (i := e) (n := 20) (by omega) (by decide)
    have goOn : ∀ y, (∀ S : Nat → Bool, ckI (S (cf e)) (S (ct e)) y - ckI (S (cf e)) (S (ct e)) (s0 173 e) = iB (S p) - iB (S v)) → (y = 0 ∨ y = 1 ∨ y = 2) → ∃ s2, sa_giveBack_5 (wr s1 173 e y) (nn x) (nn p) (nn (k + 1)) = rV s2 ∧ Ch [173, 174] [] s s2 ∧ us3 s2 E ∧ ∀ S : Nat → Bool, nfS S cf ct (s2 173) E = nfS S cf ct (s1 173) E + (iB (S x) - iB (S v)) := fun y hy hy3 => by
      obtain ⟨s2, f1, f2, f3, f4⟩ := ih p (wr s1 173 e y) (k + 1) a3 (by omega) (by omega) (Ch_w rfl rfl c1) (by rw [wr_ne _ _ _ (by decide)]; exact r174) (fun i hi => by
        rw [wr_at]
        by_cases q : i = e
        · rw [q, upd_at]; exact hy3
        · rw [upd_ne q]; exact u1 i hi) (fun w e' p' hw hdw hwx hs he' hdp hed => by
        have hne : e' ≠ e := fun z => by
          rw [z] at hed
          have dv : d w ≠ d v := by omega
          have wv : w ≠ v := fun q => dv (by rw [q])
          rcases hed with ⟨m1, m2, -⟩ | ⟨-, m1, m2, -⟩
          · rcases a5 with ⟨n1, n2, -⟩ | ⟨-, n1, n2, -⟩
            · exact wv (by rw [← m1, n1])
            · have q1 : w = p := by rw [← m1, n2]
              have q2 : p' = v := by rw [← m2, n1]
              rw [q1, q2] at hdp; omega
          · rcases a5 with ⟨n1, n2, -⟩ | ⟨-, n1, n2, -⟩
            · have q1 : w = p := by rw [← m1, n2]
              have q2 : p' = v := by rw [← m2, n1]
              rw [q1, q2] at hdp; omega
            · exact wv (by rw [← m1, n1])
        rw [wr_at, upd_ne hne]
        exact ho w e' p' hw (by omega) hwx hs he' hdp hed)
      refine ⟨s2, f1, f2, f3, fun S => ?_⟩
      rw [f4 S, wr_at, nf_upd (u := s1 173) (u' := upd (s1 173) e y) (i := e) a1 (fun i hi => upd_ne hi), upd_at, hu0]
      have := hy S
      omega
    have c0 : ∀ x y : Bool, ckI x y 0 = 0 := fun _ _ => rfl
    have c1' : ∀ x y : Bool, ckI x y 1 = iB x - iB y := fun _ _ => rfl
    have c2' : ∀ x y : Bool, ckI x y 2 = iB y - iB x := fun _ _ => rfl
    rw [sa_giveBack_5_eq, if_neg (show ¬ (8 : Int32) ≤ nn k from nle (i := 8) (by omega) (by decide)), if_neg (fun w => hvx ((nn_eq (by omega) (by omega)).mp w)), nn_b (i := v) (n := 8) hv8 (by decide), gd_t, nn_n (by omega), r174, a2, hE, gd_t, nn_n (by omega), b2]
    have u3 := hu e a1
    rcases a5 with ⟨n1, n2, n3⟩ | ⟨n0, n1, n2, n3⟩
    · rw [if_pos (by rw [n1]), sa_giveBack_41_eq, hE, gd_t, nn_n (by omega), hu0]
      have nx : ∀ y, sa_giveBack_81 (wr s1 173 e y) (nn x) (nn k) (nn e) 1 = sa_giveBack_5 (wr s1 173 e y) (nn x) (nn p) (nn (k + 1)) := fun y => by
        rw [sa_giveBack_81_eq, if_neg (show ¬ (1 : Int32) = 0 by decide), hE, gd_t, nn_n (by omega), wr_ne _ _ _ (by decide), b1, n2, nn_s]
      by_cases q : s0 173 e = 0
      · rw [if_pos q, if_neg (show ¬ (1 : Int32) = 0 by decide), gd_t, nx]
        exact goOn 1 (fun S => by rw [q, c0, c1', n1, n2]; omega) (Or.inr (Or.inl rfl))
      · have q2 : s0 173 e = 2 := by
          rcases u3 with k | k | k
          · exact absurd k q
          · exact absurd k n3
          · exact k
        rw [if_neg q, gd_t, nx]
        exact goOn 0 (fun S => by rw [q2, c0, c2', n1, n2]; omega) (Or.inl rfl)
    · rw [if_neg (fun w => n0 ((nn_eq (by omega) (by omega)).mp w)), sa_giveBack_41_eq, hE, gd_t, nn_n (by omega), hu0]
      have nx : ∀ y, sa_giveBack_81 (wr s1 173 e y) (nn x) (nn k) (nn e) 0 = sa_giveBack_5 (wr s1 173 e y) (nn x) (nn p) (nn (k + 1)) := fun y => by
        rw [sa_giveBack_81_eq, if_pos rfl, hE, gd_t, nn_n (by omega), wr_ne _ _ _ (by decide), b2, n2, nn_s]
      by_cases q : s0 173 e = 0
      · rw [if_pos q, if_pos rfl, gd_t, nx]
        exact goOn 2 (fun S => by rw [q, c0, c2', n1, n2]; omega) (Or.inr (Or.inr rfl))
      · have q2 : s0 173 e = 1 := by
          rcases u3 with k | k | k
          · exact absurd k q
          · exact k
          · exact absurd k n3
        rw [if_neg q, gd_t, nx]
        exact goOn 0 (fun S => by rw [q2, c0, c1', n1, n2]; omega) (Or.inl rfl)
end SPR
