/-! SAFE: the cheapest set -/
def coV (t : mSt) (X : Nat) : Nat → Int32
  | 0 => 0
  | k + 1 => coV t X k + (if X.testBit k = true then t 169 k else 0)
def btP (t : mSt) (X B : Nat) : Prop := coV t X (npl t) < coV t B (npl t) ∨ (coV t X (npl t) = coV t B (npl t) ∧ mbV (nn X) 16 < mbV (nn B) 16)
noncomputable def bfO (t : mSt) (L : Nat) : Nat → Option Nat
  | 0 => none
  | X + 1 => match bfO t L X with
    | none => @ite (Option Nat) (sfP t X L) (Classical.propDecidable _) (some X) none
    | some b => @ite (Option Nat) (btP t X b ∧ sfP t X L) (Classical.propDecidable _) (some X) (some b)
section SAF
variable {t s : mSt} {X L : Nat}
theorem bf_none (h : bfO t L X = none) : bfO t L (X + 1) = @ite (Option Nat) (sfP t X L) (Classical.propDecidable _) (some X) none := by
  show (match bfO t L X with | none => @ite (Option Nat) (sfP t X L) (Classical.propDecidable _) (some X) none | some b => @ite (Option Nat) (btP t X b ∧ sfP t X L) (Classical.propDecidable _) (some X) (some b)) = _
  rw [h]
theorem bf_some {b : Nat} (h : bfO t L X = some b) : bfO t L (X + 1) = @ite (Option Nat) (btP t X b ∧ sfP t X L) (Classical.propDecidable _) (some X) (some b) := by
  show (match bfO t L X with | none => @ite (Option Nat) (sfP t X L) (Classical.propDecidable _) (some X) none | some b => @ite (Option Nat) (btP t X b ∧ sfP t X L) (Classical.propDecidable _) (some X) (some b)) = _
  rw [h]
theorem bf_lt : ∀ X b, bfO t L X = some b → b < X := by
  intro X
  induction X with
  | zero => intro b h; cases h
  | succ X ih =>
    intro b h
    cases q : bfO t L X with
    | none =>
      rw [bf_none q] at h
      by_cases c : sfP t X L
      · rw [if_pos c] at h; cases h; omega
      · rw [if_neg c] at h; cases h
    | some x =>
      rw [bf_some q] at h
      by_cases c : btP t X x ∧ sfP t X L
      · rw [if_pos c] at h; cases h; omega
      · rw [if_neg c] at h
        have := ih b (by rw [q, h])
        omega
theorem co_s (t : mSt) (X n : Nat) : coV t X (n + 1) = coV t X n + (if X.testBit n = true then t 169 n else 0) := rfl
theorem co_0 (t : mSt) (X : Nat) : (coV t X 0).toInt = 0 := rfl
theorem co_a (hJ : J t) {A : Nat} (hA : ∀ n, n < npl t → A.testBit n = true) (X : Nat) (n : Nat) : n ≤ npl t → (0 ≤ (coV t A n).toInt ∧ (coV t A n).toInt ≤ 999 * (n : Int)) ∧ 0 ≤ (coV t X n).toInt ∧ (coV t X n).toInt ≤ (coV t A n).toInt := by
  obtain ⟨-, p8, ei⟩ := npl_ok hJ
  have bd1 : ∀ k, k < npl t → 1 ≤ (t 169 k).toInt ∧ (t 169 k).toInt ≤ 999 := fun k hk => ((J_P hJ).2.2 k (by omega)).2
  induction n with
  | zero => intro _; rw [co_0, co_0]; omega
  | succ n ih =>
    intro hn
    have h1 := ih (by omega)
    have hb := bd1 n (by omega)
    have z0 : (0 : Int32).toInt = 0 := rfl
    have eA : (coV t A (n + 1)).toInt = (coV t A n).toInt + (t 169 n).toInt := by
      rw [co_s, hA n (by omega), if_pos rfl, i32_add (by omega) (by omega)]
    rw [eA, co_s t X n]
    by_cases b : X.testBit n = true
    · rw [if_pos b, i32_add (by omega) (by omega)]; omega
    · rw [if_neg b, i32_add (by omega) (by omega)]; omega
theorem co_i (hJ : J t) (X : Nat) : (coV t X (npl t)).toInt ≤ (coV t (2 ^ npl t - 1) (npl t)).toInt := (co_a hJ (fun n hn => by rw [Nat.testBit_two_pow_sub_one, decide_eq_true hn]) X (npl t) (Nat.le_refl _)).2.2
theorem mb_all : ∀ n : Fin 9, ∀ X : Fin 256, X.val < 2 ^ n.val - 1 → mbV (nn X.val) 16 < mbV (nn (2 ^ n.val - 1)) 16 := by decide +kernel
theorem bt_all (hJ : J t) (hX : X < 2 ^ npl t - 1) : btP t X (2 ^ npl t - 1) := by
  obtain ⟨-, p8, -⟩ := npl_ok hJ
  have hp := pow_le (n := npl t) (by omega)
  have h := co_i hJ X
  have hm := mb_all ⟨npl t, by omega⟩ ⟨X, by omega⟩ hX
  unfold btP
  by_cases e : coV t X (npl t) = coV t (2 ^ npl t - 1) (npl t)
  · exact Or.inr ⟨e, hm⟩
  · left
    rw [Int32.lt_iff_toInt_lt]
    have : (coV t X (npl t)).toInt ≠ (coV t (2 ^ npl t - 1) (npl t)).toInt := fun z => e (Int32.toInt_inj.mp z)
    omega
theorem all_bt (hJ : J t) (hX : X < 2 ^ npl t - 1) : ¬ btP t (2 ^ npl t - 1) X := by
  obtain ⟨-, p8, -⟩ := npl_ok hJ
  have hp := pow_le (n := npl t) (by omega)
  have h := co_i hJ X
  have hm := mb_all ⟨npl t, by omega⟩ ⟨X, by omega⟩ hX
  have hm : mbV (nn X) 16 < mbV (nn (2 ^ npl t - 1)) 16 := hm
  rintro (c | ⟨-, c⟩)
  · rw [Int32.lt_iff_toInt_lt] at c; omega
  · rw [Int32.lt_iff_toInt_lt] at c hm; omega
theorem sf_mono (hX : X < 2 ^ npl t) (h : sfP t X L) : sfP t (2 ^ npl t - 1) L := fun a b ha hb v w hv hw => by
  refine lb_sub (fun k hk hq => ?_) (h a b ha hb v w hv hw)
  unfold qAB at hq ⊢
  obtain ⟨q1, q2⟩ := Bool.and_eq_true_iff.mp hq
  obtain ⟨q2, q3⟩ := Bool.and_eq_true_iff.mp q2
  rw [q1, q2]
  unfold q0N at q3 ⊢
  by_cases c : k < 12
  · rw [if_pos c] at q3 ⊢
    rw [q3]; rfl
  · rw [if_neg c] at q3 ⊢
    rw [Nat.testBit_two_pow_sub_one, decide_eq_true (bit_lt hX q3)]; rfl
theorem coinsC (hJ : J t) (hK : K t s) (hX : X < 256) : sa_coinsOf s (nn X) = rI (coV t X (npl t)) s := by
  obtain ⟨ep, p8, -⟩ := npl_ok hJ
  obtain ⟨c, e1, e2⟩ := loopS (σ := Int32) (fun c p => sa_coinsOf_4 s (nn X) c (nn p)) (npl t) (fun p c => c = coV t X p) (i0 := 0) (s0 := 0) (fun p c hp hI => by
    show ∃ c', sa_coinsOf_4 s (nn X) c (nn p) = sa_coinsOf_4 s (nn X) c' (nn (p + 1)) ∧ _
    refine ⟨c + (if X.testBit p = true then t 169 p else 0), ?_, by rw [hI]; rfl⟩
    rw [sa_coinsOf_4_eq s (nn X) c (nn p), K_at hK 166 rfl, ep, if_neg (nle hp (by omega)), nn_b (i := p) (n := 8) (by omega) (by decide), gd_t, bget hX (by omega), nn_n (by omega), K_at hK 169 rfl, nn_s]
    by_cases b : X.testBit p = true
    · rw [if_pos b, if_pos b, Int32.one_mul]
    · rw [if_neg b, if_neg b, Int32.zero_mul]) (Nat.zero_le _) rfl
  have e1 : sa_coinsOf_4 s (nn X) 0 0 = sa_coinsOf_4 s (nn X) c (nn (npl t)) := e1
  rw [sa_coinsOf_eq, e1, sa_coinsOf_4_eq, K_at hK 166 rfl, ep, if_pos (yle (Nat.le_refl _) (by omega)), e2]
theorem betterC {B : Nat} (hX : X < 256) (hB : B < 256) (h7 : s 170 7 = coV t B (npl t)) (h8 : s 170 8 = nn B) : ∃ w : Bool, sa_isBetter s (nn X) (coV t X (npl t)) = rI (bi w) s ∧ (w = true ↔ btP t X B) := by
  have b1 : bcV (nn X) = mbV (nn X) 16 := bc_mb ⟨X, hX⟩
  have b2 : bcV (nn B) = mbV (nn B) 16 := bc_mb ⟨B, hB⟩
  rw [sa_isBetter_eq, h7]
  unfold btP
  by_cases e : coV t X (npl t) = coV t B (npl t)
  · rw [if_pos e, bitCountC, bI_rI, h8, bitCountC, bI_rI, b1, b2]
    by_cases l : mbV (nn B) 16 ≤ mbV (nn X) 16
    · refine ⟨false, by rw [if_pos l]; rfl, ⟨(fun z => by cases z), fun z => ?_⟩⟩
      rcases z with c | ⟨-, c⟩
      · rw [e, Int32.lt_iff_toInt_lt] at c; omega
      · exact absurd l (Int32.not_le.mpr c)
    · exact ⟨true, by rw [if_neg l]; rfl, ⟨fun _ => Or.inr ⟨e, Int32.not_le.mp l⟩, fun _ => rfl⟩⟩
  · rw [if_neg e]
    by_cases l : coV t B (npl t) ≤ coV t X (npl t)
    · refine ⟨false, by rw [if_pos l]; rfl, ⟨(fun z => by cases z), fun z => ?_⟩⟩
      rcases z with c | ⟨c, -⟩
      · exact absurd l (Int32.not_le.mpr c)
      · exact absurd c e
    · exact ⟨true, by rw [if_neg l]; rfl, ⟨fun _ => Or.inl (Int32.not_le.mp l), fun _ => rfl⟩⟩
theorem bestSC (hJ : J t) (hL : L < 2 ^ nld t) : ∃ (w : Bool) (s' : mSt), sa_findBest t (nn L) = rI (bi w) s' ∧ Ch safL [] t s' ∧ (w = false → ¬ sfP t (2 ^ npl t - 1) L) ∧ (w = true → sfP t (2 ^ npl t - 1) L ∧ s' 170 7 = coV t ((bfO t L (2 ^ npl t - 1)).getD (2 ^ npl t - 1)) (npl t) ∧ s' 170 8 = nn ((bfO t L (2 ^ npl t - 1)).getD (2 ^ npl t - 1))) := by
  obtain ⟨ep, p8, -⟩ := npl_ok hJ
  have hp := pow_le (n := npl t) (by omega)
  have hpos : 0 < 2 ^ npl t := Nat.two_pow_pos _
  have eA : (1 : Int32) <<< (nn (npl t) &&& 31) - 1 = nn (2 ^ npl t - 1) := by
    rw [bpow (by omega)]
    exact nn_d (j := 1) hpos
  obtain ⟨w, s1, a1, a2, a3, a4⟩ := isSafeC (X := 2 ^ npl t - 1) hJ K_rf (by omega) hL
  rw [sa_findBest_eq, ep, eA, a1, bI_rI, bi_if]
  cases w with
  | false => exact ⟨false, s1, by rw [if_neg (by decide)]; rfl, a2, (fun _ z => by have := a4.mpr z; cases this), (fun z => by cases z)⟩
  | true =>
    have hA := a4.mp rfl
    have c1 : Ch safL [] t (wr s1 170 8 (nn (2 ^ npl t - 1))) := Ch_w rfl rfl a2
    rw [if_pos rfl, coinsC hJ (K_ch c1 rfl rfl K_rf) (by omega), bI_rI]
    obtain ⟨s2, e1, e2, e3, e4⟩ := loopS (σ := mSt) (fun s2 X => sa_findBest_39 s2 (nn L) (nn (2 ^ npl t - 1)) (nn X)) (2 ^ npl t - 1) (fun X s2 => Ch safL [] t s2 ∧ s2 170 7 = coV t ((bfO t L X).getD (2 ^ npl t - 1)) (npl t) ∧ s2 170 8 = nn ((bfO t L X).getD (2 ^ npl t - 1))) (i0 := 0) (s0 := wr (wr s1 170 8 (nn (2 ^ npl t - 1))) 170 7 (coV t (2 ^ npl t - 1) (npl t))) (fun X s2 hX hI => by
      show ∃ s', sa_findBest_39 s2 (nn L) (nn (2 ^ npl t - 1)) (nn X) = sa_findBest_39 s' (nn L) (nn (2 ^ npl t - 1)) (nn (X + 1)) ∧ _
      obtain ⟨i1, i2, i3⟩ := hI
      have hK2 : K t s2 := K_ch i1 rfl rfl K_rf
      have hB : (bfO t L X).getD (2 ^ npl t - 1) < 256 := by
        cases q : bfO t L X with
        | none => show 2 ^ npl t - 1 < 256; omega
        | some b => have := bf_lt X b q; show b < 256; omega
      obtain ⟨v, b1, b2⟩ := betterC (X := X) (by omega) hB i2 i3
      -- what the step is
      have nx : ∀ P : Prop, (v = true ↔ P) → (P ∧ sfP t X L → bfO t L (X + 1) = some X) → (¬ (P ∧ sfP t X L) → bfO t L (X + 1) = bfO t L X) → ∃ s', sa_findBest_39 s2 (nn L) (nn (2 ^ npl t - 1)) (nn X) = sa_findBest_39 s' (nn L) (nn (2 ^ npl t - 1)) (nn (X + 1)) ∧ Ch safL [] t s' ∧ s' 170 7 = coV t ((bfO t L (X + 1)).getD (2 ^ npl t - 1)) (npl t) ∧ s' 170 8 = nn ((bfO t L (X + 1)).getD (2 ^ npl t - 1)) := fun P hv h1 h2 => by
        rw [sa_findBest_39_eq s2 (nn L) _ (nn X), if_neg (nle hX (by omega)), coinsC hJ hK2 (by omega), bI_rI, b1, bI_rI, bi_if, nn_s]
        cases v with
        | false =>
          rw [h2 (fun z => by have := hv.mpr z.1; cases this)]
          exact ⟨s2, by rw [if_neg (by decide)], i1, i2, i3⟩
        | true =>
          have hP := hv.mp rfl
          obtain ⟨w, s3, g1, g2, g3, g4⟩ := isSafeC (X := X) hJ hK2 (by omega) hL
          rw [if_pos rfl, g1, bI_rI, bi_if]
          cases w with
          | false =>
            rw [h2 (fun z => by have := g4.mpr z.2; cases this)]
            exact ⟨s3, by rw [if_neg (by decide)], Ch_tr i1 g2, by rw [g3 7 (by decide)]; exact i2, by rw [g3 8 (by decide)]; exact i3⟩
          | true =>
            rw [h1 ⟨hP, g4.mp rfl⟩]
            exact ⟨wr (wr s3 170 8 (nn X)) 170 7 (coV t X (npl t)), by rw [if_pos rfl], Ch_w rfl rfl (Ch_w rfl rfl (Ch_tr i1 g2)), by rw [wr_at, upd_at]; rfl, by rw [wr_at, upd_ne (by decide), wr_at, upd_at]; rfl⟩
      cases q : bfO t L X with
      | none =>
        rw [q] at b2
        have b2 : v = true ↔ btP t X (2 ^ npl t - 1) := b2
        exact nx True (b2.trans ⟨fun _ => trivial, fun _ => bt_all hJ hX⟩) (fun z => by rw [bf_none q, if_pos z.2]) (fun z => by rw [bf_none q, if_neg (fun y => z ⟨trivial, y⟩), q])
      | some b =>
        rw [q] at b2
        exact nx _ b2 (fun z => by rw [bf_some q]; exact if_pos z) (fun z => by rw [bf_some q, q]; exact if_neg z)) (Nat.zero_le _) ⟨Ch_w rfl rfl c1, by rw [wr_at, upd_at]; rfl, by rw [wr_at, upd_ne (by decide), wr_at, upd_at]; rfl⟩
    have e1 : sa_findBest_39 (wr (wr s1 170 8 (nn (2 ^ npl t - 1))) 170 7 (coV t (2 ^ npl t - 1) (npl t))) (nn L) (nn (2 ^ npl t - 1)) 0 = sa_findBest_39 s2 (nn L) (nn (2 ^ npl t - 1)) (nn (2 ^ npl t - 1)) := e1
    refine ⟨true, s2, ?_, e2, (fun z => by cases z), fun _ => ⟨hA, e3, e4⟩⟩
    rw [e1, sa_findBest_39_eq, if_pos (yle (Nat.le_refl _) (by omega))]
    rfl
def bfX (o : Option Nat) : Int32 := match o with | none => -4 | some b => nn b
def bfC (t : mSt) (o : Option Nat) : Int32 := match o with | none => 0 | some b => coV t b (npl t)
theorem bestSM (hJ : J t) (hK : K t s) (hL : L < 2 ^ nld t) (x2 : Int32) : ∃ s', mo_safe_39 s (nn L) x2 (-4) 0 0 = rI (match bfO t L (2 ^ npl t) with | none => -4 | some b => if x2 = 0 then coV t b (npl t) else nn b) s' ∧ Ch [207] [] s s' := by
  obtain ⟨ep, p8, -⟩ := npl_ok hJ
  have hp := pow_le (n := npl t) (by omega)
  have ep0 := (J_P hJ).1.1
  obtain ⟨-, -, r233⟩ := (J_P hJ).2.1
  have n4 : ∀ m, m < 256 → nn m ≠ -4 := fun m hm z => by
    have h := nn_i (i := m) (by omega)
    rw [z] at h
    have e4 : (-4 : Int32).toInt = -4 := rfl
    omega
  have g67 : ∀ s1, Ch [207] [] s s1 → s1 183 67 = nn (npl t) := fun s1 c => by rw [K_m (K_ch c rfl rfl hK) 67 rfl, ep0, ep]
  have hpw := bpow (k := npl t) (by omega)
  obtain ⟨s1, e1, e2⟩ := loopS (σ := mSt) (fun s1 X => mo_safe_39 s1 (nn L) x2 (bfX (bfO t L X)) (bfC t (bfO t L X)) (nn X)) (2 ^ npl t) (fun X s1 => Ch [207] [] s s1) (i0 := 0) (s0 := s) (fun X s1 hX hI => by
    have coins : ∀ x3 x4, mo_safe_56 s1 (nn L) x2 x3 x4 (nn X) 0 0 = mo_safe_56 s1 (nn L) x2 x3 x4 (nn X) (coV t X (npl t)) (nn (npl t)) := fun x3 x4 => by
      obtain ⟨c, f1, f2⟩ := loopS (σ := Int32) (fun c p => mo_safe_56 s1 (nn L) x2 x3 x4 (nn X) c (nn p)) (npl t) (fun p c => c = coV t X p) (i0 := 0) (s0 := 0) (fun p c hp' hI' => by
        show ∃ c', mo_safe_56 s1 (nn L) x2 x3 x4 (nn X) c (nn p) = mo_safe_56 s1 (nn L) x2 x3 x4 (nn X) c' (nn (p + 1)) ∧ _
        refine ⟨c + (if X.testBit p = true then t 169 p else 0), ?_, by rw [hI']; rfl⟩
        rw [mo_safe_56_eq s1 _ _ _ _ _ c (nn p), g67 s1 hI, if_neg (nle hp' (by omega)), nn_b (i := p) (n := 8) (by omega) (by decide), gd_t, nn_n (by omega), K_at (K_ch hI rfl rfl hK) 233 rfl, r233, nn_s]
        by_cases b : X.testBit p = true
        · rw [if_pos ((bis1 (by omega) (by omega)).mpr b), if_pos b]
        · rw [if_neg (fun z => b ((bis1 (by omega) (by omega)).mp z)), if_neg b]) (Nat.zero_le _) rfl
      have f1 : mo_safe_56 s1 (nn L) x2 x3 x4 (nn X) 0 0 = mo_safe_56 s1 (nn L) x2 x3 x4 (nn X) c (nn (npl t)) := f1
      rw [f1, f2]
    obtain ⟨w, s2, g1, g2, g3⟩ := isSafeM (X := X) hJ (K_ch hI rfl rfl hK) hX hL
    have st : mo_safe_39 s1 (nn L) x2 (bfX (bfO t L X)) (bfC t (bfO t L X)) (nn X) = mo_safe_56 s1 (nn L) x2 (bfX (bfO t L X)) (bfC t (bfO t L X)) (nn X) (coV t X (npl t)) (nn (npl t)) := by
      rw [mo_safe_39_eq, g67 s1 hI, hpw, if_neg (nle hX (by omega)), coins]
    have no : ∀ x3 x4, mo_safe_135 s1 (nn L) x2 x3 x4 (nn X) (coV t X (npl t)) 0 = mo_safe_39 s1 (nn L) x2 x3 x4 (nn (X + 1)) := fun x3 x4 => by
      rw [mo_safe_135_eq, if_pos rfl, nn_s]
    have yes : ∀ x3 x4, mo_safe_135 s1 (nn L) x2 x3 x4 (nn X) (coV t X (npl t)) 1 = if w = true then mo_safe_39 s2 (nn L) x2 (nn X) (coV t X (npl t)) (nn (X + 1)) else mo_safe_39 s2 (nn L) x2 x3 x4 (nn (X + 1)) := fun x3 x4 => by
      rw [mo_safe_135_eq, if_neg (show ¬ (1 : Int32) = 0 by decide), g1, bI_rI, bi_if, nn_s]
    show ∃ s', mo_safe_39 s1 (nn L) x2 (bfX (bfO t L X)) (bfC t (bfO t L X)) (nn X) = mo_safe_39 s' (nn L) x2 (bfX (bfO t L (X + 1))) (bfC t (bfO t L (X + 1))) (nn (X + 1)) ∧ _
    rw [st, mo_safe_56_eq, g67 s1 hI, if_pos (yle (Nat.le_refl _) (by omega)), no, yes]
    cases q : bfO t L X with
    | none =>
      rw [if_pos (show bfX none = -4 from rfl), bf_none q]
      cases w with
      | true => exact ⟨s2, by rw [if_pos rfl, if_pos (g3.mp rfl)]; rfl, Ch_tr hI g2⟩
      | false => exact ⟨s2, by rw [if_neg (by decide), if_neg (fun z => by have := g3.mpr z; cases this)], Ch_tr hI g2⟩
    | some b =>
      have hb := bf_lt X b q
      have done : btP t X b → ∃ s', (if w = true then mo_safe_39 s2 (nn L) x2 (nn X) (coV t X (npl t)) (nn (X + 1)) else mo_safe_39 s2 (nn L) x2 (bfX (some b)) (bfC t (some b)) (nn (X + 1))) = mo_safe_39 s' (nn L) x2 (bfX (bfO t L (X + 1))) (bfC t (bfO t L (X + 1))) (nn (X + 1)) ∧ Ch [207] [] s s' := fun hbt => by
        rw [bf_some q]
        cases w with
        | true => exact ⟨s2, by rw [if_pos rfl, if_pos ⟨hbt, g3.mp rfl⟩]; rfl, Ch_tr hI g2⟩
        | false => exact ⟨s2, by rw [if_neg (by decide), if_neg (fun z => by have := g3.mpr z.2; cases this)], Ch_tr hI g2⟩
      have not : ¬ btP t X b → ∃ s', mo_safe_39 s1 (nn L) x2 (bfX (some b)) (bfC t (some b)) (nn (X + 1)) = mo_safe_39 s' (nn L) x2 (bfX (bfO t L (X + 1))) (bfC t (bfO t L (X + 1))) (nn (X + 1)) ∧ Ch [207] [] s s' := fun hbt => by
        rw [bf_some q, if_neg (fun z => hbt z.1)]
        exact ⟨s1, rfl, hI⟩
      rw [if_neg (show ¬ bfX (some b) = -4 from n4 b (by omega))]
      by_cases c1 : coV t X (npl t) < bfC t (some b)
      · rw [if_pos c1]
        exact done (Or.inl c1)
      · rw [if_neg c1]
        by_cases c2 : coV t X (npl t) = bfC t (some b)
        · rw [if_pos c2, bitsM, bI_rI, bitsM, bI_rI]
          by_cases c3 : mbV (bfX (some b)) 16 ≤ mbV (nn X) 16
          · rw [if_pos c3, no]
            exact not (fun z => by
              rcases z with z | ⟨-, z⟩
              · exact c1 z
              · exact absurd c3 (Int32.not_le.mpr z))
          · rw [if_neg c3, yes]
            exact done (Or.inr ⟨c2, Int32.not_le.mp c3⟩)
        · rw [if_neg c2]
          exact not (fun z => by
            rcases z with z | ⟨z, -⟩
            · exact c1 z
            · exact c2 z)) (Nat.zero_le _) Ch_rf
  have e1 : mo_safe_39 s (nn L) x2 (-4) 0 0 = mo_safe_39 s1 (nn L) x2 (bfX (bfO t L (2 ^ npl t))) (bfC t (bfO t L (2 ^ npl t))) (nn (2 ^ npl t)) := e1
  refine ⟨s1, ?_, e2⟩
  rw [e1, mo_safe_39_eq, g67 s1 e2, hpw, if_pos (yle (Nat.le_refl _) (by omega))]
  cases q : bfO t L (2 ^ npl t) with
  | none => rw [if_pos (show bfX none = -4 from rfl)]
  | some b =>
    have hb := bf_lt _ b q
    rw [if_neg (show ¬ bfX (some b) = -4 from n4 b (by omega))]
    show (if x2 = 0 then rI (coV t b (npl t)) s1 else rI (nn b) s1) = rI (if x2 = 0 then coV t b (npl t) else nn b) s1
    split <;> rfl
theorem bf_dead (h : ¬ sfP t (2 ^ npl t - 1) L) : ∀ X, X ≤ 2 ^ npl t → bfO t L X = none := by
  intro X
  induction X with
  | zero => intro _; rfl
  | succ X ih =>
    intro hX
    rw [bf_none (ih (by omega)), if_neg (fun z => h (sf_mono (by omega) z))]
theorem bf_end (hJ : J t) (h : sfP t (2 ^ npl t - 1) L) : bfO t L (2 ^ npl t) = some ((bfO t L (2 ^ npl t - 1)).getD (2 ^ npl t - 1)) := by
  have hpos : 0 < 2 ^ npl t := Nat.two_pow_pos _
  have e : 2 ^ npl t = (2 ^ npl t - 1) + 1 := by omega
  have key : bfO t L (2 ^ npl t - 1 + 1) = some ((bfO t L (2 ^ npl t - 1)).getD (2 ^ npl t - 1)) := by
    cases q : bfO t L (2 ^ npl t - 1) with
    | none => rw [bf_none q, if_pos h]; rfl
    | some b =>
      have hb := bf_lt _ b q
      rw [bf_some q, if_neg (fun z => all_bt hJ hb z.1)]; rfl
  rw [← e] at key
  exact key
end SAF
theorem c_safe : CS2 J LL_safe mo_safe := by
  intro t x y hJ
  obtain ⟨ed, d8, -⟩ := nld_ok hJ
  have ed0 := (J_N hJ).1.1.1
  have hpos : 0 < 2 ^ nld t := Nat.two_pow_pos _
  have hp := pow_le (n := nld t) (by omega)
  have eA : (1 : Int32) <<< (nn (nld t) &&& 31) - 1 = nn (2 ^ nld t - 1) := by
    rw [bpow (by omega)]
    exact nn_d (j := 1) hpos
  by_cases h1 : wb x 0 (nn (2 ^ nld t - 1)) = 0
  · exact ⟨-1, t, t, by rw [LL_safe_eq, ed, eA, LLw, bI_rI, if_pos h1], by rw [mo_safe_eq, ed0, ed, eA, mw0, bI_rI, if_pos h1], hJ⟩
  by_cases h2 : wb y 0 1 = 0
  · exact ⟨-1, t, t, by rw [LL_safe_eq, ed, eA, LLw, bI_rI, if_neg h1, LLw, bI_rI, if_pos h2], by rw [mo_safe_eq, ed0, ed, eA, mw0, bI_rI, if_neg h1, mw_0_1, bI_rI, if_pos h2], hJ⟩
  obtain ⟨z1, z2⟩ := wb_n h1
  have z0 : (0 : Int32).toInt = 0 := rfl
  have zi := nn_i (i := 2 ^ nld t - 1) (by omega)
  have hxn := nn_x (x := x) (by omega)
  have hxi : x.toInt = (x.toNatClampNeg : Int) := by
    have := Int32.toNat_toInt x
    omega
  have hL : x.toNatClampNeg < 2 ^ nld t := by omega
  generalize x.toNatClampNeg = L at *
  subst hxn
  obtain ⟨w, s1, a1, a2, a3, a4⟩ := bestSC hJ hL
  have K1 : K t s1 := K_ch a2 rfl rfl K_rf
  obtain ⟨s2, b1, b2⟩ := bestSM hJ K1 hL y
  have K2 : K t s2 := K_ch b2 rfl rfl K1
  have eC : LL_safe t (nn L) y = if w = true then (if y = 0 then rI (s1 170 7) s1 else rI (s1 170 8) s1) else rI (-4) s1 := by
    rw [LL_safe_eq, ed, eA, LLw, bI_rI, if_neg h1, LLw, bI_rI, if_neg h2, a1, bI_rI, bi_if]
  have eM : mo_safe s1 (nn L) y = mo_safe_39 s1 (nn L) y (-4) 0 0 := by
    rw [mo_safe_eq, K_m K1 0 rfl, ed0, ed, eA, mw0, bI_rI, if_neg h1, mw_0_1, bI_rI, if_neg h2]
  rw [b1] at eM
  cases w with
  | false =>
    rw [bf_dead (a3 rfl) _ (Nat.le_refl _)] at eM
    exact ⟨-4, s1, s2, by rw [eC, if_neg (by decide)], eM, K_J K2 hJ⟩
  | true =>
    obtain ⟨c1, c2, c3⟩ := a4 rfl
    rw [bf_end hJ c1] at eM
    rw [if_pos rfl, c2, c3] at eC
    refine ⟨if y = 0 then coV t ((bfO t L (2 ^ npl t - 1)).getD (2 ^ npl t - 1)) (npl t) else nn ((bfO t L (2 ^ npl t - 1)).getD (2 ^ npl t - 1)), s1, s2, ?_, eM, K_J K2 hJ⟩
    rw [eC]
    split <;> rfl
