/-! counting; the cases owed, paid -/
def ctN (p : Nat → Bool) : Nat → Nat
  | 0 => 0
  | n + 1 => ctN p n + (if p n = true then 1 else 0)
theorem ctN_le (p : Nat → Bool) (n : Nat) : ctN p n ≤ n := by
  induction n with
  | zero => exact Nat.le_refl _
  | succ n ih =>
    show ctN p n + (if p n = true then 1 else 0) ≤ n + 1
    split <;> omega
theorem ctN_mono {p q : Nat → Bool} {n : Nat} (h : ∀ i, i < n → p i = true → q i = true) : ctN p n ≤ ctN q n := by
  induction n with
  | zero => exact Nat.le_refl _
  | succ n ih =>
    have := ih (fun i hi => h i (by omega))
    show ctN p n + (if p n = true then 1 else 0) ≤ ctN q n + (if q n = true then 1 else 0)
    by_cases c : p n = true
    · rw [if_pos c, if_pos (h n (by omega) c)]; omega
    · rw [if_neg c]; omega
theorem ctN_lt {p q : Nat → Bool} {n i : Nat} (h : ∀ i, i < n → p i = true → q i = true) (hi : i < n) (h1 : p i = false) (h2 : q i = true) : ctN p n < ctN q n := by
  induction n with
  | zero => omega
  | succ n ih =>
    show ctN p n + (if p n = true then 1 else 0) < ctN q n + (if q n = true then 1 else 0)
    by_cases e : i = n
    · subst e
      have := ctN_mono (n := i) (fun j hj => h j (by omega))
      rw [h1, h2, if_neg (by decide), if_pos rfl]
      omega
    · have := ih (fun i hi => h i (by omega)) (by omega)
      by_cases c : p n = true
      · rw [if_pos c, if_pos (h n (by omega) c)]; omega
      · rw [if_neg c]; omega
theorem ctN_all {p : Nat → Bool} {n : Nat} (h : ctN p n = n) : ∀ i, i < n → p i = true := by
  induction n with
  | zero => intro i hi; omega
  | succ n ih =>
    have h : ctN p n + (if p n = true then 1 else 0) = n + 1 := h
    have := ctN_le p n
    intro i hi
    by_cases c : p n = true
    · rw [if_pos c] at h
      by_cases e : i = n
      · rw [e]; exact c
      · exact ih (by omega) i (by omega)
    · rw [if_neg c] at h; omega
theorem ctN_no {p : Nat → Bool} {a z : Nat} (h : a ≤ z) (hp : ∀ t, a ≤ t → t < z → p t = false) : ctN p z = ctN p a := by
  obtain ⟨k, rfl⟩ : ∃ k, z = a + k := ⟨z - a, by omega⟩
  induction k with
  | zero => rfl
  | succ k ih =>
    show ctN p (a + k) + (if p (a + k) = true then 1 else 0) = _
    rw [hp (a + k) (by omega) (by omega), if_neg (by decide), ih (by omega) (fun t h1 h2 => hp t h1 (by omega))]
    rfl
theorem ctN_yes {p : Nat → Bool} {a z : Nat} (h : a ≤ z) (hp : ∀ t, a ≤ t → t < z → p t = true) : ctN p z = ctN p a + (z - a) := by
  obtain ⟨k, rfl⟩ : ∃ k, z = a + k := ⟨z - a, by omega⟩
  induction k with
  | zero => rw [Nat.add_zero]; omega
  | succ k ih =>
    show ctN p (a + k) + (if p (a + k) = true then 1 else 0) = _
    rw [hp (a + k) (by omega) (by omega), if_pos rfl, ih (by omega) (fun t h1 h2 => hp t h1 (by omega))]
    omega
theorem ctN_ge {p : Nat → Bool} {a z : Nat} (h : a ≤ z) : ctN p a ≤ ctN p z ∧ ctN p z ≤ ctN p a + (z - a) := by
  obtain ⟨k, rfl⟩ : ∃ k, z = a + k := ⟨z - a, by omega⟩
  induction k with
  | zero => rw [Nat.add_zero]; omega
  | succ k ih =>
    have := ih (by omega)
    show _ ≤ ctN p (a + k) + (if p (a + k) = true then 1 else 0) ∧ ctN p (a + k) + (if p (a + k) = true then 1 else 0) ≤ _
    split <;> omega
theorem ctN_not (p : Nat → Bool) (n : Nat) : ctN (fun t => !p t) n + ctN p n = n := by
  induction n with
  | zero => rfl
  | succ n ih =>
    show ctN (fun t => !p t) n + (if (!p n) = true then 1 else 0) + (ctN p n + (if p n = true then 1 else 0)) = n + 1
    cases p n with
    | true => rw [if_neg (by decide), if_pos rfl]; omega
    | false => rw [if_pos (by decide), if_neg (by decide)]; omega
/-! who was open when -/
def sN (s : mSt) (b : Nat) : Nat := (s 37 b).toInt.toNat
def mN (s : mSt) (b : Nat) : Nat := (s 41 b).toInt.toNat
theorem sm_ok {s : mSt} (hJ : J s) {b : Nat} (hb : b < nbr s) : s 37 b = nn (sN s b) ∧ s 41 b = nn (mN s b) ∧ sN s b < mN s b ∧ sN s b ≤ 999 ∧ mN s b ≤ 1000000 ∧ ((s 214 b = -4 ∧ mN s b = 1000000) ∨ (s 214 b = nn (mN s b) ∧ ¬ s 214 b = -4)) := by
  obtain ⟨en, h8, ei⟩ := nbr_ok hJ
  have bh := (J_B hJ).1.2
  obtain ⟨⟨-, c2, -⟩, -, c6⟩ := (J_Y hJ).2 b (by omega)
  have em : (1000000 : Int32).toInt = 1000000 := rfl
  have a1 := c2.1
  have a2 := c2.2
  have a3 := bh.2
  unfold sN mN
  rcases c6 with ⟨d1, d2, -, -⟩ | ⟨d1, d2, d3, -, -⟩
  · rw [d1, em]
    exact ⟨nn_x a1, rfl, by omega, by omega, by omega, Or.inl ⟨d2, rfl⟩⟩
  · have b1 := d2.1
    have b2 := d2.2
    have n4 : ¬ s 214 b = -4 := fun q => by rw [d1] at q; rw [q] at b1; exact absurd b1 (by decide)
    exact ⟨nn_x a1, nn_x (by omega), by omega, by omega, by omega, Or.inr ⟨by rw [d1]; exact nn_x (by omega), n4⟩⟩
def slB (s : mSt) (L e : Int32) (b : Nat) : Bool := decide (s 36 b = L) && !decide (e < s 38 b)
def woP (s : mSt) (L e : Int32) (t b : Nat) : Bool := slB s L e b && (decide (sN s b ≤ t) && decide (t < mN s b))
def woB (s : mSt) (L e : Int32) (t : Nat) : Bool := exB (woP s L e t) (nbr s)
theorem woM {s : mSt} (hJ : J s) (L e : Int32) {t : Nat} (ht : t < 1000) : mo_wasOpen s L (nn t) e = rI (bi (woB s L e t)) s := by
  obtain ⟨en, h8, ei⟩ := nbr_ok hJ
  have eb := (J_B hJ).2.1
  obtain ⟨⟨q1, q2, q3, -, -⟩, -⟩ := id (J_Y hJ)
  rw [mo_wasOpen_eq]
  obtain ⟨c, e1, e2⟩ := loopS (σ := Bool) (fun c i => mo_wasOpen_6 s L (nn t) e (bi c) (nn i)) (nbr s) (fun i c => c = exB (woP s L e t) i) (i0 := 0) (s0 := false) (fun i c hi hI => by
    show ∃ s', mo_wasOpen_6 s L (nn t) e (bi c) (nn i) = mo_wasOpen_6 s L (nn t) e (bi s') (nn (i + 1)) ∧ _
    obtain ⟨k1, k2, k3, k4, k5, k6⟩ := sm_ok hJ hi
    refine ⟨c || woP s L e t i, ?_, by rw [hI]; rfl⟩
    rw [mo_wasOpen_6_eq s L (nn t) e (bi c) (nn i), eb, en, if_neg (nle hi (by omega)), nn_b (i := i) (n := 8) (by omega) (by decide), nn_n (by omega), bi_if, nn_s, q1, q2, q3, k1]
    simp only [gd_t]
    cases c with
    | true => rw [if_pos rfl]; rfl
    | false =>
      rw [if_neg (show ¬ false = true by decide), Bool.false_or]
      unfold woP slB
      by_cases c1 : s 36 i = L
      · rw [if_pos c1, decide_eq_true c1, Bool.true_and]
        by_cases c2 : e < s 38 i
        · rw [if_pos c2, decide_eq_true c2]; rfl
        · rw [if_neg c2, decide_eq_false c2]
          by_cases c3 : sN s i ≤ t
          · rw [if_neg (nlt c3 (by omega)), decide_eq_true c3, Bool.true_and]
            rcases k6 with ⟨a1, a2⟩ | ⟨a1, a2⟩
            · rw [if_pos a1, decide_eq_true (show t < mN s i by omega)]; rfl
            · rw [if_neg a2, a1]
              by_cases c4 : t < mN s i
              · rw [if_neg (nle c4 (by omega)), decide_eq_true c4]; rfl
              · rw [if_pos (yle (by omega) (by omega)), decide_eq_false c4]; rfl
          · rw [if_pos (ylt (by omega) (by omega)), decide_eq_false c3]; rfl
      · rw [if_neg c1, decide_eq_false c1]; rfl) (by omega) rfl
  have e1 : mo_wasOpen_6 s L (nn t) e 0 (nn 0) = mo_wasOpen_6 s L (nn t) e (bi c) (nn (nbr s)) := e1
  refine e1.trans ?_
  rw [mo_wasOpen_6_eq, eb, en, if_pos (yle (Nat.le_refl _) (by omega)), e2]
  show gd (bz (bi (woB s L e t))) (rI (bi (woB s L e t)) s) = _
  cases woB s L e t <;> rfl
/-- the next break that is down -/
theorem nxC {s : mSt} (hJ : J s) (L e : Int32) {a : Nat} (ha : a ≤ 999) : ∃ v, br_nextDown s L (nn a) e = rI v s ∧ ((v = -1 ∧ ∀ b, b < nbr s → slB s L e b = true → mN s b ≤ a) ∨ ∃ b, b < nbr s ∧ v = nn b ∧ slB s L e b = true ∧ a < mN s b ∧ ∀ c, c < nbr s → slB s L e c = true → a < mN s c → sN s b ≤ sN s c) := by
  obtain ⟨en, h8, ei⟩ := nbr_ok hJ
  rw [br_nextDown_eq]
  obtain ⟨v, e1, e2⟩ := loopS (σ := Int32) (fun v i => br_nextDown_6 s L (nn a) e v (nn i)) (nbr s) (fun i v => (v = -1 ∧ ∀ b, b < i → slB s L e b = true → mN s b ≤ a) ∨ ∃ b, b < i ∧ v = nn b ∧ slB s L e b = true ∧ a < mN s b ∧ ∀ c, c < i → slB s L e c = true → a < mN s c → sN s b ≤ sN s c) (i0 := 0) (s0 := -1) (fun i v hi hI => by
    show ∃ s', br_nextDown_6 s L (nn a) e v (nn i) = br_nextDown_6 s L (nn a) e s' (nn (i + 1)) ∧ _
    obtain ⟨k1, k2, k3, k4, k5, k6⟩ := sm_ok hJ hi
    have st : br_nextDown_6 s L (nn a) e v (nn i) = br_nextDown_53 s L (nn a) e v (nn i) (bi (slB s L e i && decide (a < mN s i))) := by
      rw [br_nextDown_6_eq, en, if_neg (nle hi (by omega)), nn_b (i := i) (n := 8) (by omega) (by decide), nn_n (by omega), k2]
      simp only [gd_t]
      unfold slB
      by_cases c1 : s 36 i = L
      · rw [if_pos c1, decide_eq_true c1, Bool.true_and]
        by_cases c2 : e < s 38 i
        · rw [if_pos c2, decide_eq_true c2]; rfl
        · rw [if_neg c2, decide_eq_false c2]
          by_cases c4 : a < mN s i
          · rw [if_neg (nle c4 (by omega)), decide_eq_true c4]; rfl
          · rw [if_pos (yle (by omega) (by omega)), decide_eq_false c4]; rfl
      · rw [if_neg c1, decide_eq_false c1]; rfl
    rw [st, br_nextDown_53_eq, bi_if, nn_s, nn_b (i := i) (n := 8) (by omega) (by decide), nn_n (by omega)]
    by_cases c : (slB s L e i && decide (a < mN s i)) = true
    · rw [if_pos c]
      rw [Bool.and_eq_true, decide_eq_true_iff] at c
      rcases hI with ⟨h1, h2⟩ | ⟨b, b1, b2, b3, b4, b5⟩
      · rw [h1, if_pos (by decide)]
        refine ⟨_, rfl, Or.inr ⟨i, by omega, rfl, c.1, c.2, fun d hd d1 d2 => ?_⟩⟩
        by_cases ed : d = i
        · rw [ed]; exact Nat.le_refl _
        · have := h2 d (by omega) d1
          omega
      · obtain ⟨l1, -, -, l4, -⟩ := sm_ok hJ (show b < nbr s by omega)
        rw [b2, if_neg (show ¬ nn b < 0 from nlt (j := 0) (by omega) (by omega)), nn_b (i := b) (n := 8) (by omega) (by decide), nn_n (by omega), gd_t, gd_t, k1, l1]
        by_cases c5 : sN s b ≤ sN s i
        · rw [if_pos (yle c5 (by omega))]
          refine ⟨_, rfl, Or.inr ⟨b, by omega, rfl, b3, b4, fun d hd d1 d2 => ?_⟩⟩
          by_cases ed : d = i
          · rw [ed]; exact c5
          · exact b5 d (by omega) d1 d2
        · rw [if_neg (nle (by omega) (by omega))]
          refine ⟨_, rfl, Or.inr ⟨i, by omega, rfl, c.1, c.2, fun d hd d1 d2 => ?_⟩⟩
          by_cases ed : d = i
          · rw [ed]; exact Nat.le_refl _
          · have := b5 d (by omega) d1 d2
            omega
    · rw [if_neg c]
      have c' : slB s L e i = true → mN s i ≤ a := fun q => by
        by_cases w : mN s i ≤ a
        · exact w
        · exact absurd (by rw [q, decide_eq_true (show a < mN s i by omega)]; rfl) c
      refine ⟨v, rfl, ?_⟩
      rcases hI with ⟨h1, h2⟩ | ⟨b, b1, b2, b3, b4, b5⟩
      · refine Or.inl ⟨h1, fun d hd d1 => ?_⟩
        by_cases ed : d = i
        · rw [ed] at d1 ⊢; exact c' d1
        · exact h2 d (by omega) d1
      · refine Or.inr ⟨b, by omega, b2, b3, b4, fun d hd d1 d2 => ?_⟩
        by_cases ed : d = i
        · rw [ed] at d1 d2
          have := c' d1
          omega
        · exact b5 d (by omega) d1 d2) (by omega) (Or.inl ⟨rfl, fun b hb => by omega⟩)
  have e1 : br_nextDown_6 s L (nn a) e (-1) (nn 0) = br_nextDown_6 s L (nn a) e v (nn (nbr s)) := e1
  refine ⟨v, e1.trans ?_, e2⟩
  rw [br_nextDown_6_eq, en, if_pos (yle (Nat.le_refl _) (by omega))]
/-- hours that are down -/
theorem dhC {s : mSt} (hJ : J s) (L e : Int32) {a z : Nat} (ha : a < z) (hz : z ≤ 999) : br_downHours s L (nn a) (nn z) e = rI (nn (ctN (woB s L e) z - ctN (woB s L e) a)) s := by
  obtain ⟨en, h8, ei⟩ := nbr_ok hJ
  have wo_no : ∀ t, (∀ b, b < nbr s → slB s L e b = true → ¬ (sN s b ≤ t ∧ t < mN s b)) → woB s L e t = false := fun t h => exB_f (fun b hb => by
    unfold woP
    cases w : slB s L e b with
    | false => rfl
    | true =>
      have := h b hb w
      by_cases c1 : sN s b ≤ t
      · rw [decide_eq_true c1, decide_eq_false (show ¬ t < mN s b by omega)]; rfl
      · rw [decide_eq_false c1]; rfl)
  rw [br_downHours_eq]
  have fin : ∀ c : Nat, a ≤ c → c ≤ z → (∀ t, c ≤ t → t < z → woB s L e t = false) → ctN (woB s L e) z = ctN (woB s L e) c := fun c h1 h2 h3 => ctN_no h2 h3
  have key := loopE (σ := Nat) (fun c i => br_downHours_9 s L (nn z) e (nn (ctN (woB s L e) c - ctN (woB s L e) a)) (nn c) (nn i)) (nbr s) (fun i c => a ≤ c ∧ c ≤ z ∧ (c = z ∨ i ≤ ctN (fun b => decide (mN s b ≤ c)) (nbr s))) (fun o => o = rI (nn (ctN (woB s L e) z - ctN (woB s L e) a)) s) (i0 := 0) (s0 := a) (fun i c hi hI => by
    show (∃ s', br_downHours_9 s L (nn z) e (nn (ctN (woB s L e) c - ctN (woB s L e) a)) (nn c) (nn i) = br_downHours_9 s L (nn z) e (nn (ctN (woB s L e) s' - ctN (woB s L e) a)) (nn s') (nn (i + 1)) ∧ _) ∨ br_downHours_9 s L (nn z) e (nn (ctN (woB s L e) c - ctN (woB s L e) a)) (nn c) (nn i) = _
    obtain ⟨i1, i2, i3⟩ := hI
    obtain ⟨v, k1, k2⟩ := nxC hJ L e (a := c) (by omega)
    rw [br_downHours_9_eq s L (nn z) e _ (nn c) (nn i), en, if_neg (nle hi (by omega)), k1, bI_rI]
    rcases k2 with ⟨h1, h2⟩ | ⟨b, b1, b2, b3, b4, b5⟩
    · right
      rw [h1, if_pos (by decide), fin c i1 i2 (fun t t1 t2 => wo_no t (fun d d1 d2 d3 => by have := h2 d d1 d2; omega))]
    · obtain ⟨l1, l2, l3, l4, l5, -⟩ := sm_ok hJ b1
      rw [b2, if_neg (show ¬ nn b < 0 from nlt (j := 0) (by omega) (by omega)), nn_b (i := b) (n := 8) (by omega) (by decide), nn_n (by omega), gd_t, gd_t, gd_t, l1, l2]
      by_cases c1 : z ≤ sN s b
      · right
        rw [if_pos (yle c1 (by omega)), fin c i1 i2 (fun t t1 t2 => wo_no t (fun d d1 d2 d3 => by have := b5 d d1 d2 (by omega); omega))]
      · rw [if_neg (nle (by omega) (by omega))]
        by_cases c2 : c < z
        · rw [if_pos (ylt c2 (by omega))]
          left
          have m1 : jMin (nn (mN s b)) (nn z) = nn (min (mN s b) z) := by
            unfold jMin
            by_cases q : z < mN s b
            · rw [if_pos (ylt q (by omega)), Nat.min_eq_right (by omega)]
            · rw [if_neg (nlt (by omega) (by omega)), Nat.min_eq_left (by omega)]
          have m2 : jMax (nn (sN s b)) (nn c) = nn (max (sN s b) c) := by
            unfold jMax
            by_cases q : sN s b < c
            · rw [if_pos (ylt q (by omega)), Nat.max_eq_right (by omega)]
            · rw [if_neg (nlt (by omega) (by omega)), Nat.max_eq_left (by omega)]
          have g1 : ctN (woB s L e) (max (sN s b) c) = ctN (woB s L e) c := ctN_no (by omega) (fun t t1 t2 => wo_no t (fun d d1 d2 d3 => by have := b5 d d1 d2 (by omega); omega))
          have g2 : ctN (woB s L e) (min (mN s b) z) = ctN (woB s L e) (max (sN s b) c) + (min (mN s b) z - max (sN s b) c) := ctN_yes (by omega) (fun t t1 t2 => exB_iff.mpr ⟨b, b1, by
            unfold woP
            rw [b3, decide_eq_true (show sN s b ≤ t by omega), decide_eq_true (show t < mN s b by omega)]
            rfl⟩)
          have g3 := (ctN_ge (p := woB s L e) i1).1
          refine ⟨min (mN s b) z, ?_, by omega, by omega, ?_⟩
          · rw [m1, m2, nn_d (by omega), nn_a, nn_s]
            congr 2
            omega
          · by_cases q : z ≤ mN s b
            · left; omega
            · right
              rcases i3 with i3 | i3
              · omega
              · have := ctN_lt (p := fun d => decide (mN s d ≤ c)) (q := fun d => decide (mN s d ≤ min (mN s b) z)) (n := nbr s) (i := b) (fun d _ d2 => by rw [decide_eq_true_iff] at d2 ⊢; omega) b1 (decide_eq_false (by omega)) (decide_eq_true (by omega))
                omega
        · right
          have : c = z := by omega
          rw [if_neg (nlt (by omega) (by omega)), this]) (by omega) ⟨Nat.le_refl _, by omega, Or.inr (by omega)⟩
  rcases key with ⟨c, f1, f2, f3, f4⟩ | f
  · have f1 : br_downHours_9 s L (nn z) e (nn (ctN (woB s L e) a - ctN (woB s L e) a)) (nn a) (nn 0) = br_downHours_9 s L (nn z) e (nn (ctN (woB s L e) c - ctN (woB s L e) a)) (nn c) (nn (nbr s)) := f1
    rw [Nat.sub_self] at f1
    refine Eq.trans f1 ?_
    rw [br_downHours_9_eq, en, if_pos (yle (Nat.le_refl _) (by omega))]
    have : ctN (woB s L e) z = ctN (woB s L e) c := by
      rcases f4 with f4 | f4
      · rw [f4]
      · have hl := ctN_le (fun b => decide (mN s b ≤ c)) (nbr s)
        have hall := ctN_all (p := fun b => decide (mN s b ≤ c)) (n := nbr s) (by omega)
        exact fin c f2 f3 (fun t t1 t2 => wo_no t (fun d d1 d2 d3 => by
          have := of_decide_eq_true (hall d d1)
          omega))
    rw [this]
  · have f : br_downHours_9 s L (nn z) e (nn (ctN (woB s L e) a - ctN (woB s L e) a)) (nn a) (nn 0) = _ := f
    rw [Nat.sub_self] at f
    exact f
