/-! RULES: tokens, the reference -/
def moW (fs : List Nat) (s s' : mSt) : Prop := (∀ a, a ≠ 183 → s' a = s a) ∧ ∀ f, fs.contains f = false → s' 183 f = s 183 f
theorem moW_rf {fs : List Nat} {s : mSt} : moW fs s s := ⟨fun _ _ => rfl, fun _ _ => rfl⟩
theorem moW_w {fs : List Nat} {s s' : mSt} {f : Nat} {v : Int32} (hf : fs.contains f = true) (h : moW fs s s') : moW fs s (wr s' 183 f v) := ⟨fun a ha => by rw [wr_ne _ _ _ ha]; exact h.1 a ha, fun g hg => by
  have : g ≠ f := fun e => by rw [e, hf] at hg; cases hg
  rw [wr_at, upd_ne this]; exact h.2 g hg⟩
theorem moW_tr {fs : List Nat} {s s1 s2 : mSt} (h : moW fs s s1) (h' : moW fs s1 s2) : moW fs s s2 := ⟨fun a ha => (h'.1 a ha).trans (h.1 a ha), fun f hf => (h'.2 f hf).trans (h.2 f hf)⟩
theorem moW_sub {fs gs : List Nat} {s s1 : mSt} (h : moW fs s s1) (hs : fs.all (fun a => gs.contains a) = true) : moW gs s s1 := ⟨h.1, fun f hf => h.2 f (by
  cases e : fs.contains f with
  | false => rfl
  | true =>
    have := List.all_eq_true.mp hs f (by simpa using e)
    rw [this] at hf; cases hf)⟩
def lkT (T : Nat → Int32) (n x : Nat) : Int32 := if x < n then T x else -1
theorem mw_lt (s : mSt) (x : Int32) : mo_in s x.toInt64 97 122 = rI (wb x 97 122) s := mowc s x 97 122 rfl rfl
theorem mw_dg (s : mSt) (x : Int32) : mo_in s x.toInt64 48 57 = rI (wb x 48 57) s := mowc s x 48 57 rfl rfl
section TKM
variable {T : Nat → Int32} {n : Nat}
theorem lookM {s : mSt} (hn : n ≤ 240) (hT : s 197 = T) (h20 : s 183 20 = nn n) {x : Nat} (hx : x < 1000) : mo_look s (nn x) = rI (lkT T n x) s := by
  rw [mo_look_eq, h20]
  unfold lkT
  by_cases c : x < n
  · rw [if_neg (nle c (by omega)), if_pos c, nn_b (i := x) (n := 240) (by omega) (by decide), gd_t, nn_n (by omega), hT]
  · rw [if_pos (yle (by omega) (by omega)), if_neg c]
theorem skipM (hn : n ≤ 240) : ∀ k p (s : mSt), s 197 = T → s 183 20 = nn n → s 183 21 = nn p → p + k = n → ∃ s', mo_next_8 s = mo_next_8 s' ∧ s' 183 21 = nn (fnd (spT T) k p) ∧ moW [21] s s' := by
  intro k
  induction k with
  | zero => intro p s hT h2 h5 hk; exact ⟨s, rfl, h5, moW_rf⟩
  | succ k ih =>
    intro p s hT h2 h5 hk
    have e : fnd (spT T) (k + 1) p = if spT T p = true then fnd (spT T) k (p + 1) else p := rfl
    rw [e]
    by_cases q : T p = 32
    · have q' : spT T p = true := decide_eq_true q
      obtain ⟨s', a1, a2, a3⟩ := ih (p + 1) (wr s 183 21 (nn (p + 1))) (by rw [wr_ne _ _ _ (by decide)]; exact hT) (by rw [wr_at, upd_ne (by decide)]; exact h2) (by rw [wr_at, upd_at]) (by omega)
      rw [if_pos q']
      refine ⟨s', ?_, a2, moW_tr (moW_w rfl moW_rf) a3⟩
      rw [mo_next_8_eq, h5, lookM hn hT h2 (by omega), bI_rI, show lkT T n p = 32 by unfold lkT; rw [if_pos (by omega)]; exact q, if_pos rfl, h5, nn_s, a1]
    · have q' : ¬ spT T p = true := fun z => q (of_decide_eq_true z)
      rw [if_neg q']
      exact ⟨s, rfl, h5, moW_rf⟩
theorem wordM (hn : n ≤ 240) : ∀ k p (s : mSt), s 197 = T → s 183 20 = nn n → s 183 21 = nn p → p + k = n → ∃ s', mo_next_82 s = rV s' ∧ s' 183 21 = nn (fnd (ltT T) k p) ∧ moW [21] s s' := by
  intro k
  induction k with
  | zero =>
    intro p s hT h2 h5 hk
    refine ⟨s, ?_, h5, moW_rf⟩
    rw [mo_next_82_eq, h5, lookM hn hT h2 (by omega), bI_rI, mw_lt, bI_rI, show lkT T n p = -1 by unfold lkT; rw [if_neg (by omega)], if_pos (by decide)]
  | succ k ih =>
    intro p s hT h2 h5 hk
    have e : fnd (ltT T) (k + 1) p = if ltT T p = true then fnd (ltT T) k (p + 1) else p := rfl
    rw [e, mo_next_82_eq, h5, lookM hn hT h2 (by omega), bI_rI, mw_lt, bI_rI, show lkT T n p = T p by unfold lkT; rw [if_pos (by omega)], h5, nn_s]
    by_cases q : wb (T p) 97 122 = 0
    · have q' : ¬ ltT T p = true := by unfold ltT; rw [decide_eq_true q]; decide
      rw [if_pos q, if_neg q']
      exact ⟨s, rfl, h5, moW_rf⟩
    · have q' : ltT T p = true := by unfold ltT; rw [decide_eq_false q]; rfl
      obtain ⟨s', a1, a2, a3⟩ := ih (p + 1) (wr s 183 21 (nn (p + 1))) (by rw [wr_ne _ _ _ (by decide)]; exact hT) (by rw [wr_at, upd_ne (by decide)]; exact h2) (by rw [wr_at, upd_at]) (by omega)
      rw [if_neg q, if_pos q']
      exact ⟨s', a1, a2, moW_tr (moW_w rfl moW_rf) a3⟩
theorem numM (hn : n ≤ 240) (q : Nat) : ∀ k r (s : mSt) (v : Int32), s 197 = T → s 183 20 = nn n → s 183 21 = nn r → s 183 22 = nn q → s 183 24 = v → r + k = n → q ≤ r → ∃ s', mo_next_140 s = mo_next_140 s' ∧ s' 183 21 = nn (fnd (dgT T) k r) ∧ (fnd (dgT T) k r - q ≤ 3 → s' 183 24 = vlT T k r v) ∧ moW [21, 24] s s' := by
  intro k
  induction k with
  | zero => intro r s v hT h2 h5 h6 h8 hk hq; exact ⟨s, rfl, h5, fun _ => h8, moW_rf⟩
  | succ k ih =>
    intro r s v hT h2 h5 h6 h8 hk hq
    have e : fnd (dgT T) (k + 1) r = if dgT T r = true then fnd (dgT T) k (r + 1) else r := rfl
    have e8 : vlT T (k + 1) r v = if dgT T r = true then vlT T k (r + 1) (v * 10 + T r - 48) else v := rfl
    by_cases c : dgT T r = true
    · have w : ¬ wb (T r) 48 57 = 0 := fun z => by unfold dgT at c; rw [decide_eq_true z] at c; cases c
      have el : lkT T n r = T r := by unfold lkT; rw [if_pos (by omega)]
      have bd := fnd_bd (dgT T) k (r + 1)
      have ed : nn r - nn q = nn (r - q) := nn_d hq
      have st : ∀ v', mo_next_201 s v' = mo_next_140 (wr (wr s 183 24 v') 183 21 (nn (r + 1))) := fun v' => by rw [mo_next_201_eq, h5, nn_s]
      have go : ∀ v', (r - q < 3 → v' = v * 10 + T r - 48) → mo_next_140 s = mo_next_140 (wr (wr s 183 24 v') 183 21 (nn (r + 1))) → ∃ s', mo_next_140 s = mo_next_140 s' ∧ s' 183 21 = nn (fnd (dgT T) (k + 1) r) ∧ (fnd (dgT T) (k + 1) r - q ≤ 3 → s' 183 24 = vlT T (k + 1) r v) ∧ moW [21, 24] s s' := fun v' hv hs => by
        obtain ⟨s', a1, a2, a4, a3⟩ := ih (r + 1) (wr (wr s 183 24 v') 183 21 (nn (r + 1))) v' (by rw [wr_ne _ _ _ (by decide), wr_ne _ _ _ (by decide)]; exact hT) (by rw [wr_at, upd_ne (by decide), wr_at, upd_ne (by decide)]; exact h2) (by rw [wr_at, upd_at]) (by rw [wr_at, upd_ne (by decide), wr_at, upd_ne (by decide)]; exact h6) (by rw [wr_at, upd_ne (by decide), wr_at, upd_at]) (by omega) (by omega)
        rw [e, e8, if_pos c, if_pos c]
        exact ⟨s', hs.trans a1, a2, fun z => by rw [a4 z, hv (by omega)], moW_tr (moW_w rfl (moW_w rfl moW_rf)) a3⟩
      by_cases l : r - q < 3
      · refine go (10 * v + T r - 48) (fun _ => by rw [Int32.mul_comm]) ?_
        rw [mo_next_140_eq s, h5, lookM hn hT h2 (by omega), bI_rI, el, mw_dg, bI_rI, if_neg w, h5, h6, ed, if_neg (show ¬ (3 : Int32) ≤ nn (r - q) from nle (i := 3) l (by decide)), lookM hn hT h2 (by omega), bI_rI, el, h8, st]
      · refine go v (fun z => absurd z l) ?_
        rw [mo_next_140_eq s, h5, lookM hn hT h2 (by omega), bI_rI, el, mw_dg, bI_rI, if_neg w, h5, h6, ed, if_pos (show (3 : Int32) ≤ nn (r - q) from yle (i := 3) (by omega) (by omega)), h8, st]
    · rw [e, e8, if_neg c, if_neg c]
      exact ⟨s, rfl, h5, fun _ => h8, moW_rf⟩
theorem tokM {p : Nat} {s : mSt} (hn : n ≤ 240) (hB : ∀ j, 0 ≤ (T j).toInt) (hT : s 197 = T) (h2 : s 183 20 = nn n) (h5 : s 183 21 = nn p) (h25 : s 183 25 = 0) (hp : p ≤ n) : ∃ s', mo_next s = rV s' ∧ moW [21, 22, 23, 24, 25, 26] s s' ∧ s' 183 22 = nn (tkB T n p) ∧ (tkOK T n (tkB T n p) = true → s' 183 25 = 0 ∧ s' 183 21 = nn (tkE T n (tkB T n p)) ∧ s' 183 23 = tkS T n (tkB T n p) ∧ (tkS T n (tkB T n p) = 2 → s' 183 24 = tkV T n (tkB T n p))) ∧ (tkOK T n (tkB T n p) = false → s' 183 25 = 1 ∧ s' 183 26 = nn (tkB T n p)) := by
  obtain ⟨s1, a1, a2, a3⟩ := skipM hn (n - p) p s hT h2 h5 (by omega)
  have bq := fnd_bd (spT T) (n - p) p
  have nq := fnd_no (spT T) (n - p) p
  have eB : tkB T n p = fnd (spT T) (n - p) p := rfl
  rw [← eB] at a2 bq nq
  generalize tkB T n p = q at *
  have t1 : s1 197 = T := by rw [a3.1 197 (by decide)]; exact hT
  have l1 : s1 183 20 = nn n := by rw [a3.2 20 rfl]; exact h2
  have f1 : s1 183 25 = 0 := by rw [a3.2 25 rfl]; exact h25
  have W1 : moW [21, 22, 23, 24, 25, 26] s (wr s1 183 22 (nn q)) := moW_w rfl (moW_sub a3 rfl)
  have n32 : ¬ lkT T n q = 32 := fun z => by
    unfold lkT at z
    by_cases c : q < n
    · rw [if_pos c] at z
      have := nq (by omega)
      unfold spT at this
      rw [decide_eq_true z] at this; cases this
    · rw [if_neg c] at z; exact absurd z (by decide)
  generalize hs2 : wr s1 183 22 (nn q) = s2 at *
  have t2 : s2 197 = T := by rw [← hs2, wr_ne _ _ _ (by decide)]; exact t1
  have l2 : s2 183 20 = nn n := by rw [← hs2, wr_at, upd_ne (by decide)]; exact l1
  have f2 : s2 183 25 = 0 := by rw [← hs2, wr_at, upd_ne (by decide)]; exact f1
  have p2 : s2 183 21 = nn q := by rw [← hs2, wr_at, upd_ne (by decide)]; exact a2
  have q2 : s2 183 22 = nn q := by rw [← hs2, wr_at, upd_at]
  rw [mo_next_eq, h25, if_pos (by decide), a1, mo_next_8_eq, a2, lookM hn t1 l1 (by omega), bI_rI, if_neg n32, a2, hs2, lookM hn t2 l2 (by omega), bI_rI]
  by_cases c0 : q < n
  · have el : lkT T n q = T q := by unfold lkT; rw [if_pos c0]
    rw [el, if_pos (show (0 : Int32) ≤ T q by rw [Int32.le_iff_toInt_le]; exact hB q), mw_lt, bI_rI]
    by_cases c2 : wb (T q) 97 122 = 0
    · have q' : ¬ ltT T q = true := by unfold ltT; rw [decide_eq_true c2]; decide
      rw [if_pos c2, mw_dg, bI_rI]
      by_cases c3 : wb (T q) 48 57 = 0
      · have d' : ¬ dgT T q = true := by unfold dgT; rw [decide_eq_true c3]; decide
        rw [if_pos c3]
        by_cases c1 : T q = 59
        · have eS : tkS T n q = 3 := by unfold tkS; rw [if_pos c0, if_pos c1]
          have eE : tkE T n q = q + 1 := by unfold tkE; rw [if_pos c0, if_pos c1]
          have eO : tkOK T n q = true := by unfold tkOK; rw [eS, if_neg (by decide)]
          rw [if_pos c1, mo_next_260_eq, mo_wants_eq, if_neg (by decide), bV_rV, eO, eS, eE]
          refine ⟨wr (wr s2 183 23 3) 183 21 (nn (q + 1)), ?_, moW_w rfl (moW_w rfl W1), ?_, fun _ => ⟨?_, ?_, ?_, (fun z => absurd z (by decide))⟩, (fun z => by cases z)⟩
          · rw [wr_at, upd_ne (by decide), p2, nn_s]
          · rw [wr_at, upd_ne (by decide), wr_at, upd_ne (by decide)]; exact q2
          · rw [wr_at, upd_ne (by decide), wr_at, upd_ne (by decide)]; exact f2
          · rw [wr_at, upd_at]
          · rw [wr_at, upd_ne (by decide), wr_at, upd_at]
        · have eS : tkS T n q = 2 := by unfold tkS; rw [if_pos c0, if_neg c1, if_neg q']
          have eE : tkE T n q = q := by
            unfold tkE
            rw [if_pos c0, if_neg c1, if_neg q']
            obtain ⟨k, hk⟩ : ∃ k, n - q = k + 1 := ⟨n - q - 1, by omega⟩
            rw [hk]
            show (if dgT T q = true then _ else q) = q
            rw [if_neg d']
          have eO : tkOK T n q = false := by unfold tkOK; rw [eS, if_pos rfl, eE, decide_eq_false (by omega)]
          rw [if_neg c1, mo_next_260_eq, mo_wants_eq, if_pos rfl, wr_at, upd_ne (by decide), f2, if_pos rfl, bV_rV, eO]
          refine ⟨wr (wr (wr (wr s2 183 23 3) 183 25 1) 183 26 (nn q)) 183 21 (nn (q + 1)), ?_, moW_w rfl (moW_w rfl (moW_w rfl (moW_w rfl W1))), ?_, (fun z => by cases z), fun _ => ⟨?_, ?_⟩⟩
          · rw [upd_ne (by decide), q2, wr_at, upd_ne (by decide), wr_at, upd_ne (by decide), wr_at, upd_ne (by decide), p2, nn_s]
          · rw [wr_at, upd_ne (by decide), wr_at, upd_ne (by decide), wr_at, upd_ne (by decide), wr_at, upd_ne (by decide)]; exact q2
          · rw [wr_at, upd_ne (by decide), wr_at, upd_ne (by decide), wr_at, upd_at]
          · rw [wr_at, upd_ne (by decide), wr_at, upd_at]
      · have d' : dgT T q = true := by unfold dgT; rw [decide_eq_false c3]; rfl
        have c1 : ¬ T q = 59 := fun z => c3 (by rw [z]; decide)
        have eS : tkS T n q = 2 := by unfold tkS; rw [if_pos c0, if_neg c1, if_neg q']
        have eE : tkE T n q = fnd (dgT T) (n - q) q := by unfold tkE; rw [if_pos c0, if_neg c1, if_neg q']
        have ge1 : q + 1 ≤ fnd (dgT T) (n - q) q := by
          obtain ⟨k, hk⟩ : ∃ k, n - q = k + 1 := ⟨n - q - 1, by omega⟩
          rw [hk]
          show q + 1 ≤ (if dgT T q = true then fnd (dgT T) k (q + 1) else q)
          rw [if_pos d']
          exact (fnd_bd (dgT T) k (q + 1)).1
        have be := fnd_bd (dgT T) (n - q) q
        have ne := fnd_no (dgT T) (n - q) q
        obtain ⟨s3, b1, b2, b3, b4⟩ := numM (T := T) hn q (n - q) q (wr (wr s2 183 23 2) 183 24 0) 0 (by rw [wr_ne _ _ _ (by decide), wr_ne _ _ _ (by decide)]; exact t2) (by rw [wr_at, upd_ne (by decide), wr_at, upd_ne (by decide)]; exact l2) (by rw [wr_at, upd_ne (by decide), wr_at, upd_ne (by decide)]; exact p2) (by rw [wr_at, upd_ne (by decide), wr_at, upd_ne (by decide)]; exact q2) (by rw [wr_at, upd_at]) (by omega) (Nat.le_refl _)
        rw [← eE] at b2 b3 be ne ge1
        have t3 : s3 197 = T := by rw [b4.1 197 (by decide), wr_ne _ _ _ (by decide), wr_ne _ _ _ (by decide)]; exact t2
        have l3 : s3 183 20 = nn n := by rw [b4.2 20 rfl, wr_at, upd_ne (by decide), wr_at, upd_ne (by decide)]; exact l2
        have q3 : s3 183 22 = nn q := by rw [b4.2 22 rfl, wr_at, upd_ne (by decide), wr_at, upd_ne (by decide)]; exact q2
        have f3 : s3 183 25 = 0 := by rw [b4.2 25 rfl, wr_at, upd_ne (by decide), wr_at, upd_ne (by decide)]; exact f2
        have m3 : s3 183 23 = 2 := by rw [b4.2 23 rfl, wr_at, upd_ne (by decide), wr_at, upd_at]
        have W3 : moW [21, 22, 23, 24, 25, 26] s s3 := moW_tr (moW_w rfl (moW_w rfl W1)) (moW_sub b4 rfl)
        generalize hE : tkE T n q = e at *
        have nod : wb (lkT T n e) 48 57 = 0 := by
          unfold lkT
          by_cases c : e < n
          · rw [if_pos c]
            have := ne (by omega)
            unfold dgT at this
            cases w : decide (wb (T e) 48 57 = 0) with
            | true => exact of_decide_eq_true w
            | false => rw [w] at this; cases this
          · rw [if_neg c]; decide
        have ed : nn e - nn q = nn (e - q) := nn_d (by omega)
        rw [if_neg c3, b1, mo_next_140_eq, b2, lookM hn t3 l3 (by omega), bI_rI, mw_dg, bI_rI, if_pos nod, b2, q3, ed, eS]
        by_cases c4 : e - q ≤ 3
        · have eO : tkOK T n q = true := by unfold tkOK; rw [eS, if_pos rfl, hE, decide_eq_true (by omega)]
          rw [if_neg (show ¬ (3 : Int32) < nn (e - q) from nlt (i := 3) (by omega) (by omega)), mo_wants_eq, if_neg (by decide), bV_rV, eO]
          exact ⟨s3, rfl, W3, q3, fun _ => ⟨f3, b2, m3, fun _ => b3 c4⟩, (fun z => by cases z)⟩
        · have eO : tkOK T n q = false := by unfold tkOK; rw [eS, if_pos rfl, hE, decide_eq_false (by omega)]
          rw [if_pos (show (3 : Int32) < nn (e - q) from ylt (i := 3) (by omega) (by omega)), mo_wants_eq, if_pos rfl, f3, if_pos rfl, bV_rV, eO, q3]
          exact ⟨wr (wr s3 183 25 1) 183 26 (nn q), rfl, moW_w rfl (moW_w rfl W3), by rw [wr_at, upd_ne (by decide), wr_at, upd_ne (by decide)]; exact q3, (fun z => by cases z), fun _ => ⟨by rw [wr_at, upd_ne (by decide), wr_at, upd_at], by rw [wr_at, upd_at]⟩⟩
    · have q' : ltT T q = true := by unfold ltT; rw [decide_eq_false c2]; rfl
      have c1 : ¬ T q = 59 := fun z => c2 (by rw [z]; decide)
      have eS : tkS T n q = 1 := by unfold tkS; rw [if_pos c0, if_neg c1, if_pos q']
      have eE : tkE T n q = fnd (ltT T) (n - q) q := by unfold tkE; rw [if_pos c0, if_neg c1, if_pos q']
      have eO : tkOK T n q = true := by unfold tkOK; rw [eS, if_neg (by decide)]
      obtain ⟨s3, b1, b2, b4⟩ := wordM (T := T) hn (n - q) q (wr s2 183 23 1) (by rw [wr_ne _ _ _ (by decide)]; exact t2) (by rw [wr_at, upd_ne (by decide)]; exact l2) (by rw [wr_at, upd_ne (by decide)]; exact p2) (by omega)
      rw [if_neg c2, b1, eO, eS, eE]
      refine ⟨s3, rfl, moW_tr (moW_w rfl W1) (moW_sub b4 rfl), ?_, fun _ => ⟨?_, b2, ?_, (fun z => absurd z (by decide))⟩, (fun z => by cases z)⟩
      · rw [b4.2 22 rfl, wr_at, upd_ne (by decide)]; exact q2
      · rw [b4.2 25 rfl, wr_at, upd_ne (by decide)]; exact f2
      · rw [b4.2 23 rfl, wr_at, upd_at]
  · have eS : tkS T n q = 0 := by unfold tkS; rw [if_neg c0]
    have eE : tkE T n q = q := by unfold tkE; rw [if_neg c0]
    have eO : tkOK T n q = true := by unfold tkOK; rw [eS, if_neg (by decide)]
    have el : lkT T n q = -1 := by unfold lkT; rw [if_neg c0]
    rw [el, if_neg (by decide), eO, eS, eE]
    refine ⟨wr s2 183 23 0, rfl, moW_w rfl W1, ?_, fun _ => ⟨?_, ?_, ?_, (fun z => absurd z (by decide))⟩, (fun z => by cases z)⟩
    · rw [wr_at, upd_ne (by decide)]; exact q2
    · rw [wr_at, upd_ne (by decide)]; exact f2
    · rw [wr_at, upd_ne (by decide)]; exact p2
    · rw [wr_at, upd_at]
end TKM
