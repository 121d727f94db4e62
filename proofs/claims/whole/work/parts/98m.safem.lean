/-! SAFE: the reference -/
def jnP (t : mSt) (X L a b : Nat) : Prop := ∀ v w, L.testBit v = true → L.testBit w = true → lbM (qAB (q0N t X) a b) (frA t) (toA t) 20 v = lbM (qAB (q0N t X) a b) (frA t) (toA t) 20 w
theorem jn_sym {t : mSt} {X L a b : Nat} (h : jnP t X L a b) : jnP t X L b a := by
  have : qAB (q0N t X) b a = qAB (q0N t X) a b := funext fun k => by
    unfold qAB
    cases decide (k = a) <;> cases decide (k = b) <;> rfl
  unfold jnP
  rw [this]
  exact h
section SFM
variable {t s : mSt} {X L : Nat}
theorem q0_lt (hJ : J t) (hX : X < 2 ^ npl t) {k : Nat} (h : q0N t X k = true) : frA t k < nld t ∧ toA t k < nld t := by
  unfold q0N at h
  unfold frA toA
  by_cases c : k < 12
  · rw [if_pos c] at h
    rw [if_pos c, if_pos c]
    obtain ⟨-, -, f3, f4, -⟩ := ft_ok hJ (of_decide_eq_true h)
    exact ⟨f3, f4⟩
  · rw [if_neg c] at h
    rw [if_neg c, if_neg c]
    have := pt_ok hJ (bit_lt hX h)
    exact ⟨this.1, this.2.1⟩
theorem joinedM (hJ : J t) (hK : K t s) (hX : X < 2 ^ npl t) (hL : L < 2 ^ nld t) {a b : Nat} (ha : a < 20) (hb : b < 20) : ∃ (w : Bool) (s' : mSt), mo_areJoined s (nn L) (nn X) (nn a) (nn b) = rI (bi w) s' ∧ Ch [207] [] s s' ∧ (w = true ↔ jnP t X L a b) := by
  obtain ⟨ed, d8, -⟩ := nld_ok hJ
  obtain ⟨en, n12, -⟩ := nln_ok hJ
  obtain ⟨ep, p8, -⟩ := npl_ok hJ
  have hL8 : L < 256 := Nat.lt_of_lt_of_le hL (pow_le (by omega))
  have hX8 : X < 256 := Nat.lt_of_lt_of_le hX (pow_le (by omega))
  have ed0 := (J_N hJ).1.1.1
  have en0 := (J_N hJ).1.2.1.1
  obtain ⟨-, -, r186, r187, -⟩ := (J_N hJ).2.1
  obtain ⟨r231, r232, -⟩ := (J_P hJ).2.1
  have g0 : ∀ s1, Ch [207] [] s s1 → s1 183 0 = nn (nld t) := fun s1 c => by rw [K_m (K_ch c rfl rfl hK) 0 rfl, ed0, ed]
  have g3 : ∀ s1, Ch [207] [] s s1 → s1 183 3 = nn (nln t) := fun s1 c => by rw [K_m (K_ch c rfl rfl hK) 3 rfl, en0, en]
  obtain ⟨s1, e1, e2, e3⟩ := loopS (σ := mSt) (fun s1 j => mo_areJoined_3 s1 (nn L) (nn X) (nn a) (nn b) (nn j)) (nld t) (fun j s1 => Ch [207] [] s s1 ∧ ∀ i, i < j → s1 207 i = nn i) (i0 := 0) (s0 := s) (fun j s1 hj hI => by
    show ∃ s', mo_areJoined_3 s1 (nn L) (nn X) (nn a) (nn b) (nn j) = mo_areJoined_3 s' (nn L) (nn X) (nn a) (nn b) (nn (j + 1)) ∧ _
    refine ⟨wr s1 207 j (nn j), ?_, Ch_w rfl rfl hI.1, fun i hi => ?_⟩
    · rw [mo_areJoined_3_eq s1 _ _ _ _ (nn j), g0 s1 hI.1, if_neg (nle hj (by omega)), nn_b (i := j) (n := 8) (by omega) (by decide), gd_t, nn_n (by omega), nn_s]
    · rw [wr_at]
      by_cases q : i = j
      · rw [q, upd_at]
      · rw [upd_ne q]; exact hI.2 i (by omega)) (Nat.zero_le _) ⟨Ch_rf, fun i hi => by omega⟩
  have e1 : mo_areJoined_3 s (nn L) (nn X) (nn a) (nn b) 0 = mo_areJoined_3 s1 (nn L) (nn X) (nn a) (nn b) (nn (nld t)) := e1
  have qlt : ∀ k, qAB (q0N t X) a b k = true → frA t k < nld t ∧ toA t k < nld t := fun k h => by
    unfold qAB at h
    exact q0_lt hJ hX (Bool.and_eq_true_iff.mp (Bool.and_eq_true_iff.mp h).2).2
  have llt : ∀ k v, v < nld t → lbM (qAB (q0N t X) a b) (frA t) (toA t) k v < nld t := fun k => lbM_lt (fun k h => (qlt k h).2) k
  obtain ⟨s2, f1, f2, f3⟩ := loopS (σ := mSt) (fun s2 k => mo_areJoined_30 s2 (nn L) (nn X) (nn a) (nn b) (nn k)) 20 (fun k s2 => Ch [207] [] s s2 ∧ ∀ j, j < nld t → s2 207 j = nn (lbM (qAB (q0N t X) a b) (frA t) (toA t) k j)) (i0 := 0) (s0 := s1) (fun k s2 hk hI => by
    show ∃ s', mo_areJoined_30 s2 (nn L) (nn X) (nn a) (nn b) (nn k) = mo_areJoined_30 s' (nn L) (nn X) (nn a) (nn b) (nn (k + 1)) ∧ _
    obtain ⟨i1, i2⟩ := hI
    have hK2 : K t s2 := K_ch i1 rfl rfl hK
    have lbs : ∀ j, lbM (qAB (q0N t X) a b) (frA t) (toA t) (k + 1) j = if qAB (q0N t X) a b k = true ∧ lbM (qAB (q0N t X) a b) (frA t) (toA t) k j = lbM (qAB (q0N t X) a b) (frA t) (toA t) k (frA t k) then lbM (qAB (q0N t X) a b) (frA t) (toA t) k (toA t k) else lbM (qAB (q0N t X) a b) (frA t) (toA t) k j := fun _ => rfl
    have s30 : mo_areJoined_30 s2 (nn L) (nn X) (nn a) (nn b) (nn k) = mo_areJoined_87 s2 (nn L) (nn X) (nn a) (nn b) (nn k) (bi (qAB (q0N t X) a b k)) := by
      rw [mo_areJoined_30_eq, if_neg (show ¬ (20 : Int32) ≤ nn k from nle (i := 20) hk (by decide))]
      unfold qAB
      by_cases ka : k = a
      · rw [if_pos (by rw [ka]), decide_eq_true ka]; rfl
      · rw [if_neg (fun z => ka ((nn_eq (by omega) (by omega)).mp z)), decide_eq_false ka]
        by_cases kb : k = b
        · rw [if_pos (by rw [kb]), decide_eq_true kb]; rfl
        · rw [if_neg (fun z => kb ((nn_eq (by omega) (by omega)).mp z)), decide_eq_false kb]
          unfold q0N
          by_cases c : k < 12
          · rw [if_neg (show ¬ (12 : Int32) ≤ nn k from nle (i := 12) c (by decide)), if_pos c, g3 s2 i1]
            by_cases n : k < nln t
            · rw [if_neg (nle n (by omega)), decide_eq_true n]; rfl
            · rw [if_pos (yle (by omega) (by omega)), decide_eq_false n]; rfl
          · rw [if_pos (show (12 : Int32) ≤ nn k from yle (i := 12) (by omega) (by omega)), if_neg c, show nn k - 12 = nn (k - 12) from nn_d (j := 12) (by omega)]
            cases q : X.testBit (k - 12) with
            | true => rw [if_pos ((bis1 hX8 (by omega)).mpr q)]; rfl
            | false => rw [if_neg (fun z => by rw [(bis1 hX8 (by omega)).mp z] at q; cases q)]; rfl
    cases q : qAB (q0N t X) a b k with
    | false =>
      refine ⟨s2, ?_, i1, fun j hj => by rw [lbs, q, if_neg (fun z => by cases z.1)]; exact i2 j hj⟩
      rw [s30, q, mo_areJoined_87_eq, if_pos (show bi false = 0 from rfl), mo_areJoined_130_eq, if_pos (show bi false = 0 from rfl), mo_areJoined_178_eq, nn_s]
      split
      · rfl
      · rw [if_pos (show bi false = 0 from rfl)]
    | true =>
      obtain ⟨l1, l2⟩ := qlt k q
      have m1 := llt k _ l1
      have m2 := llt k _ l2
      have s87 : mo_areJoined_87 s2 (nn L) (nn X) (nn a) (nn b) (nn k) (bi true) = mo_areJoined_178 s2 (nn L) (nn X) (nn a) (nn b) (nn k) (bi true) (nn (lbM (qAB (q0N t X) a b) (frA t) (toA t) k (frA t k))) (nn (lbM (qAB (q0N t X) a b) (frA t) (toA t) k (toA t k))) 0 := by
        have hq0 : q0N t X k = true := by
          unfold qAB at q
          exact (Bool.and_eq_true_iff.mp (Bool.and_eq_true_iff.mp q).2).2
        rw [mo_areJoined_87_eq, if_neg (show ¬ bi true = 0 by decide)]
        unfold q0N at hq0
        by_cases c : k < 12
        · rw [if_pos c] at hq0
          obtain ⟨-, -, -, -, f5, f6, -⟩ := ft_ok hJ (of_decide_eq_true hq0)
          have ef : frA t k = frN t k := if_pos c
          have et : toA t k = toN t k := if_pos c
          rw [if_neg (show ¬ (12 : Int32) ≤ nn k from nle (i := 12) c (by decide)), nn_b (i := k) (n := 12) c (by decide), gd_t, nn_n (by omega), K_at hK2 186 rfl, r186, f5, ← ef, nn_b (i := frA t k) (n := 8) (by omega) (by decide), gd_t, nn_n (by omega), i2 _ l1, mo_areJoined_130_eq, if_neg (show ¬ bi true = 0 by decide), if_neg (show ¬ (12 : Int32) ≤ nn k from nle (i := 12) c (by decide)), nn_b (i := k) (n := 12) c (by decide), gd_t, nn_n (by omega), K_at hK2 187 rfl, r187, f6, ← et, nn_b (i := toA t k) (n := 8) (by omega) (by decide), gd_t, nn_n (by omega), i2 _ l2]
        · rw [if_neg c] at hq0
          obtain ⟨-, -, f5, f6⟩ := pt_ok hJ (bit_lt hX hq0)
          have ef : frA t k = pfN t (k - 12) := if_neg c
          have et : toA t k = ptN t (k - 12) := if_neg c
          have ek : nn k - 12 = nn (k - 12) := nn_d (j := 12) (by omega)
          have c12 : (12 : Int32) ≤ nn k := yle (i := 12) (by omega) (by omega)
          rw [if_pos c12, ek, nn_b (i := k - 12) (n := 8) (by omega) (by decide), gd_t, nn_n (by omega), K_at hK2 231 rfl, r231, f5, ← ef, nn_b (i := frA t k) (n := 8) (by omega) (by decide), gd_t, nn_n (by omega), i2 _ l1, mo_areJoined_130_eq, if_neg (show ¬ bi true = 0 by decide), if_pos c12, ek, nn_b (i := k - 12) (n := 8) (by omega) (by decide), gd_t, nn_n (by omega), K_at hK2 232 rfl, r232, f6, ← et, nn_b (i := toA t k) (n := 8) (by omega) (by decide), gd_t, nn_n (by omega), i2 _ l2]
      generalize hF : lbM (qAB (q0N t X) a b) (frA t) (toA t) k (frA t k) = F at *
      generalize hG : lbM (qAB (q0N t X) a b) (frA t) (toA t) k (toA t k) = G at *
      obtain ⟨s3, h1, h2, h3⟩ := loopS (σ := mSt) (fun s3 j => mo_areJoined_178 s3 (nn L) (nn X) (nn a) (nn b) (nn k) (bi true) (nn F) (nn G) (nn j)) (nld t) (fun j s3 => Ch [207] [] s s3 ∧ ∀ i, i < nld t → s3 207 i = if i < j then nn (lbM (qAB (q0N t X) a b) (frA t) (toA t) (k + 1) i) else s2 207 i) (i0 := 0) (s0 := s2) (fun j s3 hj hI' => by
        show ∃ s', mo_areJoined_178 s3 (nn L) (nn X) (nn a) (nn b) (nn k) (bi true) (nn F) (nn G) (nn j) = mo_areJoined_178 s' (nn L) (nn X) (nn a) (nn b) (nn k) (bi true) (nn F) (nn G) (nn (j + 1)) ∧ _
        obtain ⟨c1, c2⟩ := hI'
        have ej : s3 207 j = nn (lbM (qAB (q0N t X) a b) (frA t) (toA t) k j) := by rw [c2 j hj, if_neg (Nat.lt_irrefl _), i2 j hj]
        have mj := llt k j hj
        refine ⟨wr s3 207 j (nn (lbM (qAB (q0N t X) a b) (frA t) (toA t) (k + 1) j)), ?_, Ch_w rfl rfl c1, fun i hi => ?_⟩
        · rw [mo_areJoined_178_eq s3, g0 s3 c1, if_neg (nle hj (by omega)), if_neg (show ¬ bi true = 0 by decide), nn_b (i := j) (n := 8) (by omega) (by decide), gd_t, gd_t, gd_t, gd_t, nn_n (by omega), ej, lbs, nn_s]
          by_cases w : lbM (qAB (q0N t X) a b) (frA t) (toA t) k j = F
          · rw [if_pos (by rw [w]), if_pos ⟨q, w⟩]
          · rw [if_neg (fun z => w ((nn_eq (by omega) (by omega)).mp z)), if_neg (fun z => w z.2)]
        · rw [wr_at]
          by_cases w : i = j
          · rw [w, upd_at, if_pos (Nat.lt_succ_self j)]
          · rw [upd_ne w, c2 i hi]
            by_cases l : i < j
            · rw [if_pos l, if_pos (by omega)]
            · rw [if_neg l, if_neg (by omega)]) (Nat.zero_le _) ⟨i1, fun i hi => by rw [if_neg (Nat.not_lt_zero _)]⟩
      have h1 : mo_areJoined_178 s2 (nn L) (nn X) (nn a) (nn b) (nn k) (bi true) (nn F) (nn G) 0 = mo_areJoined_178 s3 (nn L) (nn X) (nn a) (nn b) (nn k) (bi true) (nn F) (nn G) (nn (nld t)) := h1
      refine ⟨s3, ?_, h2, fun j hj => by rw [h3 j hj, if_pos hj]⟩
      rw [s30, q, s87, h1, mo_areJoined_178_eq, g0 s3 h2, if_pos (yle (Nat.le_refl _) (by omega)), nn_s]) (by omega) ⟨e2, fun j hj => by rw [e3 j hj]; rfl⟩
  have f1 : mo_areJoined_30 s1 (nn L) (nn X) (nn a) (nn b) 0 = mo_areJoined_30 s2 (nn L) (nn X) (nn a) (nn b) (nn 20) := f1
  have hbz : ∀ b : Bool, bz (bi b) = true := by decide
  have n4 : ∀ m, m < 8 → nn m ≠ -4 := by decide
  unfold jnP
  have llt20 := llt 20
  generalize lbM (qAB (q0N t X) a b) (frA t) (toA t) 20 = lb at *
  obtain ⟨⟨x5, w⟩, h1, h2⟩ := loopS (σ := Int32 × Bool) (fun r v => mo_areJoined_245 s2 (nn L) r.1 (bi r.2) (nn v)) (nld t) (fun v r => (r.1 = -4 ∧ r.2 = true ∧ ∀ i, i < v → L.testBit i = false) ∨ ∃ v0, v0 < v ∧ L.testBit v0 = true ∧ r.1 = nn (lb v0) ∧ (r.2 = true ↔ ∀ i, i < v → L.testBit i = true → lb i = lb v0)) (i0 := 0) (s0 := (-4, true)) (fun v r hv hI => by
    obtain ⟨x5, w⟩ := r
    show ∃ r' : Int32 × Bool, mo_areJoined_245 s2 (nn L) x5 (bi w) (nn v) = mo_areJoined_245 s2 (nn L) r'.1 (bi r'.2) (nn (v + 1)) ∧ _
    rw [mo_areJoined_245_eq s2 (nn L) x5 (bi w) (nn v), g0 s2 f2, if_neg (nle hv (by omega)), nn_s]
    have hlv := llt20 v hv
    by_cases bt : L.testBit v = true
    · rw [if_pos ((bis1 hL8 (by omega)).mpr bt), nn_b (i := v) (n := 8) (by omega) (by decide), gd_t, nn_n (by omega), f3 v hv]
      rcases hI with ⟨j1, j2, j3⟩ | ⟨v0, j1, j2, j3, j4⟩
      · have j1 : x5 = -4 := j1
        have j2 : w = true := j2
        refine ⟨(nn (lb v), true), ?_, Or.inr ⟨v, by omega, bt, rfl, ⟨fun _ i hi hbi => ?_, fun _ => rfl⟩⟩⟩
        · rw [if_pos j1, mo_areJoined_283_eq, j2, if_neg (show ¬ bi true = 0 by decide), nn_b (i := v) (n := 8) (by omega) (by decide), gd_t, nn_n (by omega), f3 v hv, if_pos rfl, nn_s]
          rfl
        · by_cases q : i = v
          · rw [q]
          · have := j3 i (by omega)
            rw [this] at hbi; cases hbi
      · have j3 : x5 = nn (lb v0) := j3
        have j4 : w = true ↔ ∀ i, i < v → L.testBit i = true → lb i = lb v0 := j4
        have hl0 := llt20 v0 (by omega)
        subst j3
        refine ⟨(nn (lb v0), w && decide (lb v = lb v0)), ?_, Or.inr ⟨v0, by omega, j2, rfl, ?_⟩⟩
        · rw [if_neg (n4 _ (by omega)), mo_areJoined_283_eq]
          cases w with
          | false => rw [if_pos (show bi false = 0 from rfl), nn_s]; rfl
          | true =>
            rw [if_neg (show ¬ bi true = 0 by decide), nn_b (i := v) (n := 8) (by omega) (by decide), gd_t, nn_n (by omega), f3 v hv, nn_s]
            by_cases q : lb v = lb v0
            · rw [if_pos (by rw [q]), decide_eq_true q]; rfl
            · rw [if_neg (fun z => q ((nn_eq (by omega) (by omega)).mp z)), decide_eq_false q]; rfl
        · show (w && decide (lb v = lb v0)) = true ↔ _
          rw [Bool.and_eq_true_iff, j4, decide_eq_true_iff]
          constructor
          · intro h i hi hbi
            by_cases q : i = v
            · rw [q]; exact h.2
            · exact h.1 i (by omega) hbi
          · intro h
            exact ⟨fun i hi => h i (by omega), h v (by omega) bt⟩
    · refine ⟨(x5, w), ?_, ?_⟩
      · rw [if_neg (fun z => bt ((bis1 hL8 (by omega)).mp z))]
      · have bf : L.testBit v = false := by cases e : L.testBit v; rfl; exact absurd e bt
        rcases hI with ⟨j1, j2, j3⟩ | ⟨v0, j1, j2, j3, j4⟩
        · refine Or.inl ⟨j1, j2, fun i hi => ?_⟩
          by_cases q : i = v
          · rw [q]; exact bf
          · exact j3 i (by omega)
        · refine Or.inr ⟨v0, by omega, j2, j3, j4.trans ⟨fun h i hi hbi => ?_, fun h i hi => h i (by omega)⟩⟩
          have : i ≠ v := fun q => bt (by rw [← q]; exact hbi)
          exact h i (by omega) hbi) (Nat.zero_le _) (Or.inl ⟨rfl, rfl, fun i hi => by omega⟩)
  have h1 : mo_areJoined_245 s2 (nn L) (-4) 1 0 = mo_areJoined_245 s2 (nn L) x5 (bi w) (nn (nld t)) := h1
  refine ⟨w, s2, ?_, f2, ?_⟩
  · rw [mo_areJoined_eq, e1, mo_areJoined_3_eq, g0 s1 e2, if_pos (yle (Nat.le_refl _) (by omega)), f1, mo_areJoined_30_eq, if_pos (by decide), h1, mo_areJoined_245_eq, g0 s2 f2, if_pos (yle (Nat.le_refl _) (by omega)), hbz, gd_t]
  · rcases h2 with ⟨-, j2, j3⟩ | ⟨v0, j1, j2, -, j4⟩
    · have j2 : w = true := j2
      refine ⟨fun _ v w hv => ?_, fun _ => j2⟩
      rw [j3 v (bit_lt hL hv)] at hv; cases hv
    · have j4 : w = true ↔ ∀ i, i < nld t → L.testBit i = true → lb i = lb v0 := j4
      exact j4.trans ⟨fun h v w hv hw => by rw [h v (bit_lt hL hv) hv, h w (bit_lt hL hw) hw], fun h i _ hbi => h i v0 hbi j2⟩
theorem isSafeM (hJ : J t) (hK : K t s) (hX : X < 2 ^ npl t) (hL : L < 2 ^ nld t) : ∃ (w : Bool) (s' : mSt), mo_isSafe s (nn L) (nn X) = rI (bi w) s' ∧ Ch [207] [] s s' ∧ (w = true ↔ sfP t X L) := by
  have hbz : ∀ b : Bool, bz (bi b) = true := by decide
  obtain ⟨⟨s1, w⟩, e1, e2, e3⟩ := loopS (σ := mSt × Bool) (fun r a => mo_isSafe_5 r.1 (nn L) (nn X) (bi r.2) (nn a)) 20 (fun a r => Ch [207] [] s r.1 ∧ (r.2 = true ↔ ∀ a' b', a' < a → a' ≤ b' → b' < 20 → jnP t X L a' b')) (i0 := 0) (s0 := (s, true)) (fun a r ha hI => by
    obtain ⟨s1, w⟩ := r
    show ∃ r' : mSt × Bool, mo_isSafe_5 s1 (nn L) (nn X) (bi w) (nn a) = mo_isSafe_5 r'.1 (nn L) (nn X) (bi r'.2) (nn (a + 1)) ∧ _
    obtain ⟨i1, i2⟩ := hI
    have i2 : w = true ↔ ∀ a' b', a' < a → a' ≤ b' → b' < 20 → jnP t X L a' b' := i2
    obtain ⟨⟨s2, w2⟩, f1, f2, -, f3⟩ := loopS (σ := mSt × Bool) (fun r b => mo_isSafe_16 r.1 (nn L) (nn X) (bi r.2) (nn a) (nn b)) 20 (fun b r => Ch [207] [] s r.1 ∧ a ≤ b ∧ (r.2 = true ↔ w = true ∧ ∀ b', a ≤ b' → b' < b → jnP t X L a b')) (i0 := a) (s0 := (s1, w)) (fun b r hb hI' => by
      obtain ⟨s2, w2⟩ := r
      show ∃ r' : mSt × Bool, mo_isSafe_16 s2 (nn L) (nn X) (bi w2) (nn a) (nn b) = mo_isSafe_16 r'.1 (nn L) (nn X) (bi r'.2) (nn a) (nn (b + 1)) ∧ _
      obtain ⟨c1, cab, c2⟩ := hI'
      have c2 : w2 = true ↔ w = true ∧ ∀ b', a ≤ b' → b' < b → jnP t X L a b' := c2
      cases w2 with
      | false =>
        refine ⟨(s2, false), ?_, c1, by omega, ⟨(fun z => by cases z), fun z => c2.mpr ⟨z.1, fun b' h1 h2 => z.2 b' h1 (by omega)⟩⟩⟩
        rw [mo_isSafe_16_eq s2 _ _ _ _ (nn b), mo_isSafe_16_eq s2 _ _ _ _ (nn (b + 1)), if_pos (show bi false = 0 from rfl)]
        split <;> split <;> rfl
      | true =>
        obtain ⟨w3, s3, g1, g2, g3⟩ := joinedM hJ (K_ch c1 rfl rfl hK) hX hL (a := a) (b := b) ha hb
        have c2 := c2.mp rfl
        refine ⟨(s3, w3), ?_, Ch_tr c1 g2, by omega, g3.trans ⟨fun z => ⟨c2.1, fun b' h1 h2 => ?_⟩, fun z => ?_⟩⟩
        · rw [mo_isSafe_16_eq s2 _ _ _ _ (nn b), if_neg (show ¬ (20 : Int32) ≤ nn b from nle (i := 20) hb (by decide)), if_neg (show ¬ bi true = 0 by decide), g1, bI_rI, nn_s]
        · by_cases q : b' = b
          · rw [q]; exact z
          · exact c2.2 b' h1 (by omega)
        · exact z.2 b cab (by omega)) (by omega) ⟨i1, Nat.le_refl _, ⟨fun z => ⟨z, fun b' h1 h2 => by omega⟩, fun z => z.1⟩⟩
    have f1 : mo_isSafe_16 s1 (nn L) (nn X) (bi w) (nn a) (nn a) = mo_isSafe_16 s2 (nn L) (nn X) (bi w2) (nn a) (nn 20) := f1
    have f3 : w2 = true ↔ w = true ∧ ∀ b', a ≤ b' → b' < 20 → jnP t X L a b' := f3
    refine ⟨(s2, w2), ?_, f2, f3.trans ⟨fun z a' b' h1 h2 h3 => ?_, fun z => ⟨i2.mpr (fun a' b' h1 h2 h3 => z a' b' (by omega) h2 h3), fun b' h1 h2 => z a b' (by omega) h1 h2⟩⟩⟩
    · rw [mo_isSafe_5_eq s1 _ _ _ (nn a), if_neg (show ¬ (20 : Int32) ≤ nn a from nle (i := 20) ha (by decide)), f1, mo_isSafe_16_eq, if_pos (by decide), nn_s]
    · by_cases q : a' = a
      · rw [q]; exact z.2 b' (by omega) h3
      · exact i2.mp z.1 a' b' (by omega) h2 h3) (by omega) ⟨Ch_rf, ⟨fun _ a' b' h1 => by omega, fun _ => rfl⟩⟩
  have e1 : mo_isSafe_5 s (nn L) (nn X) 1 0 = mo_isSafe_5 s1 (nn L) (nn X) (bi w) (nn 20) := e1
  have e3 : w = true ↔ ∀ a' b', a' < 20 → a' ≤ b' → b' < 20 → jnP t X L a' b' := e3
  refine ⟨w, s1, ?_, e2, e3.trans ⟨fun h a b ha hb => ?_, fun h a b ha _ hb => h a b ha hb⟩⟩
  · rw [mo_isSafe_eq, e1, mo_isSafe_5_eq, if_pos (by decide), hbz, gd_t]
  · by_cases q : a ≤ b
    · exact h a b ha q hb
    · exact jn_sym (h b a hb (by omega) ha)
end SFM
