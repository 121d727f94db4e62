/-! RULES: tokens -/
def fnd (c : Nat → Bool) : Nat → Nat → Nat
  | 0, p => p
  | k + 1, p => if c p = true then fnd c k (p + 1) else p
theorem fnd_bd (c : Nat → Bool) : ∀ k p, p ≤ fnd c k p ∧ fnd c k p ≤ p + k := by
  intro k
  induction k with
  | zero => intro p; exact ⟨Nat.le_refl _, Nat.le_refl _⟩
  | succ k ih =>
    intro p
    show p ≤ (if c p = true then fnd c k (p + 1) else p) ∧ (if c p = true then fnd c k (p + 1) else p) ≤ p + (k + 1)
    have := ih (p + 1)
    split <;> omega
theorem fnd_no (c : Nat → Bool) : ∀ k p, fnd c k p < p + k → c (fnd c k p) = false := by
  intro k
  induction k with
  | zero => intro p h; exact absurd h (Nat.lt_irrefl _)
  | succ k ih =>
    intro p h
    have e : fnd c (k + 1) p = if c p = true then fnd c k (p + 1) else p := rfl
    rw [e] at h ⊢
    by_cases q : c p = true
    · rw [if_pos q] at h ⊢; exact ih (p + 1) (by omega)
    · rw [if_neg q]
      cases w : c p
      · rfl
      · exact absurd w q
def spT (T : Nat → Int32) (i : Nat) : Bool := decide (T i = 32)
def ltT (T : Nat → Int32) (i : Nat) : Bool := !decide (wb (T i) 97 122 = 0)
def dgT (T : Nat → Int32) (i : Nat) : Bool := !decide (wb (T i) 48 57 = 0)
def vlT (T : Nat → Int32) : Nat → Nat → Int32 → Int32
  | 0, _, v => v
  | k + 1, p, v => if dgT T p = true then vlT T k (p + 1) (v * 10 + T p - 48) else v
/-- only fields of the class's reader changed, and those given -/
def rdW (fs : List Nat) (s s' : mSt) : Prop := (∀ a, a ≠ 12 → s' a = s a) ∧ ∀ f, fs.contains f = false → s' 12 f = s 12 f
section TKC
variable {T : Nat → Int32} {n : Nat}
theorem rdW_rf {fs : List Nat} {s : mSt} : rdW fs s s := ⟨fun _ _ => rfl, fun _ _ => rfl⟩
theorem rdW_w {fs : List Nat} {s s' : mSt} {f : Nat} {v : Int32} (hf : fs.contains f = true) (h : rdW fs s s') : rdW fs s (wr s' 12 f v) := ⟨fun a ha => by rw [wr_ne _ _ _ ha]; exact h.1 a ha, fun g hg => by
  have : g ≠ f := fun e => by rw [e, hf] at hg; cases hg
  rw [wr_at, upd_ne this]; exact h.2 g hg⟩
theorem skipC (hn : n ≤ 240) : ∀ k p (s : mSt), s 13 = T → s 12 2 = nn n → s 12 5 = nn p → p + k = n → ∃ s', rd_nextToken_0 s = rd_nextToken_38 s' ∧ s' 12 5 = nn (fnd (spT T) k p) ∧ rdW [5] s s' := by
  intro k
  induction k with
  | zero =>
    intro p s hT h2 h5 hk
    refine ⟨s, ?_, h5, rdW_rf⟩
    rw [rd_nextToken_0_eq, h2, h5, if_pos (yle (by omega) (by omega))]
  | succ k ih =>
    intro p s hT h2 h5 hk
    have e : fnd (spT T) (k + 1) p = if spT T p = true then fnd (spT T) k (p + 1) else p := rfl
    rw [e, rd_nextToken_0_eq, h2, h5, if_neg (nle (by omega) (by omega)), nn_b (i := p) (n := 240) (by omega) (by decide), gd_t, nn_n (by omega), hT]
    by_cases q : T p = 32
    · have q' : spT T p = true := decide_eq_true q
      obtain ⟨s', a1, a2, a3⟩ := ih (p + 1) (wr s 12 5 (nn (p + 1))) (by rw [wr_ne _ _ _ (by decide)]; exact hT) (by rw [wr_at, upd_ne (by decide)]; exact h2) (by rw [wr_at, upd_at]) (by omega)
      rw [if_pos q, if_pos q', nn_s]
      refine ⟨s', a1, a2, ⟨fun a ha => ?_, fun f hf => ?_⟩⟩
      · rw [a3.1 a ha, wr_ne _ _ _ ha]
      · have : f ≠ 5 := fun z => by rw [z] at hf; cases hf
        rw [a3.2 f hf, wr_at, upd_ne this]
    · have q' : ¬ spT T p = true := fun z => q (of_decide_eq_true z)
      rw [if_neg q, if_neg q']
      exact ⟨s, rfl, h5, rdW_rf⟩
theorem wordC (hn : n ≤ 240) : ∀ k p (s : mSt), s 13 = T → s 12 2 = nn n → s 12 5 = nn p → p + k = n → ∃ s', rd_nextToken_119 s = rI 1 s' ∧ s' 12 5 = nn (fnd (ltT T) k p) ∧ rdW [5] s s' := by
  intro k
  induction k with
  | zero =>
    intro p s hT h2 h5 hk
    refine ⟨s, ?_, h5, rdW_rf⟩
    rw [rd_nextToken_119_eq, h2, h5, if_pos (yle (by omega) (by omega))]
  | succ k ih =>
    intro p s hT h2 h5 hk
    have e : fnd (ltT T) (k + 1) p = if ltT T p = true then fnd (ltT T) k (p + 1) else p := rfl
    rw [e, rd_nextToken_119_eq, h2, h5, if_neg (nle (by omega) (by omega)), nn_b (i := p) (n := 240) (by omega) (by decide), gd_t, nn_n (by omega), hT, LLw, bI_rI, h5, nn_s]
    by_cases q : wb (T p) 97 122 = 0
    · have q' : ¬ ltT T p = true := by unfold ltT; rw [decide_eq_true q]; decide
      rw [if_pos q, if_neg q']
      exact ⟨s, rfl, h5, rdW_rf⟩
    · have q' : ltT T p = true := by unfold ltT; rw [decide_eq_false q]; rfl
      obtain ⟨s', a1, a2, a3⟩ := ih (p + 1) (wr s 12 5 (nn (p + 1))) (by rw [wr_ne _ _ _ (by decide)]; exact hT) (by rw [wr_at, upd_ne (by decide)]; exact h2) (by rw [wr_at, upd_at]) (by omega)
      rw [if_neg q, if_pos q']
      refine ⟨s', a1, a2, ⟨fun a ha => ?_, fun f hf => ?_⟩⟩
      · rw [a3.1 a ha, wr_ne _ _ _ ha]
      · have : f ≠ 5 := fun z => by rw [z] at hf; cases hf
        rw [a3.2 f hf, wr_at, upd_ne this]
theorem numC (hn : n ≤ 240) : ∀ k p (s : mSt) (v : Int32), s 13 = T → s 12 2 = nn n → s 12 5 = nn p → s 12 8 = v → p + k = n → ∃ s', rd_nextNumber_10 s = rd_nextNumber_77 s' ∧ s' 12 5 = nn (fnd (dgT T) k p) ∧ s' 12 8 = vlT T k p v ∧ rdW [5, 8] s s' := by
  intro k
  induction k with
  | zero =>
    intro p s v hT h2 h5 h8 hk
    refine ⟨s, ?_, h5, h8, rdW_rf⟩
    rw [rd_nextNumber_10_eq, h2, h5, if_pos (yle (by omega) (by omega))]
  | succ k ih =>
    intro p s v hT h2 h5 h8 hk
    have e : fnd (dgT T) (k + 1) p = if dgT T p = true then fnd (dgT T) k (p + 1) else p := rfl
    have e8 : vlT T (k + 1) p v = if dgT T p = true then vlT T k (p + 1) (v * 10 + T p - 48) else v := rfl
    have hb : inb (nn p) 240 = true := nn_b (i := p) (n := 240) (by omega) (by decide)
    rw [e, e8, rd_nextNumber_10_eq, h2, h5, if_neg (nle (by omega) (by omega)), hb, gd_t, nn_n (by omega), hT, LLw, bI_rI, h5, hb, gd_t, h8, hT, nn_n (by omega), nn_s]
    by_cases q : wb (T p) 48 57 = 0
    · have q' : ¬ dgT T p = true := by unfold dgT; rw [decide_eq_true q]; decide
      rw [if_pos q, if_neg q', if_neg q']
      exact ⟨s, rfl, h5, h8, rdW_rf⟩
    · have q' : dgT T p = true := by unfold dgT; rw [decide_eq_false q]; rfl
      obtain ⟨s', a1, a2, a4, a3⟩ := ih (p + 1) (wr (wr s 12 8 (v * 10 + T p - 48)) 12 5 (nn (p + 1))) (v * 10 + T p - 48) (by rw [wr_ne _ _ _ (by decide), wr_ne _ _ _ (by decide)]; exact hT) (by rw [wr_at, upd_ne (by decide), wr_at, upd_ne (by decide)]; exact h2) (by rw [wr_at, upd_at]) (by rw [wr_at, upd_ne (by decide), wr_at, upd_at]) (by omega)
      rw [if_neg q, if_pos q', if_pos q']
      refine ⟨s', a1, a2, a4, ⟨fun a ha => ?_, fun f hf => ?_⟩⟩
      · rw [a3.1 a ha, wr_ne _ _ _ ha, wr_ne _ _ _ ha]
      · have n5 : f ≠ 5 := fun z => by rw [z] at hf; cases hf
        have n8 : f ≠ 8 := fun z => by rw [z] at hf; cases hf
        rw [a3.2 f hf, wr_at, upd_ne n5, wr_at, upd_ne n8]
end TKC
/-! the token at a place: where it begins, its sort, where it ends, its value, is it well formed -/
def tkB (T : Nat → Int32) (n p : Nat) : Nat := fnd (spT T) (n - p) p
def tkS (T : Nat → Int32) (n q : Nat) : Int32 := if q < n then (if T q = 59 then 3 else if ltT T q = true then 1 else 2) else 0
def tkE (T : Nat → Int32) (n q : Nat) : Nat := if q < n then (if T q = 59 then q + 1 else if ltT T q = true then fnd (ltT T) (n - q) q else fnd (dgT T) (n - q) q) else q
def tkV (T : Nat → Int32) (n q : Nat) : Int32 := vlT T (n - q) q 0
def tkOK (T : Nat → Int32) (n q : Nat) : Bool := if tkS T n q = 2 then decide (1 ≤ tkE T n q - q ∧ tkE T n q - q ≤ 3) else true
theorem tokC {T : Nat → Int32} {n p : Nat} {s : mSt} (hn : n ≤ 240) (hT : s 13 = T) (h2 : s 12 2 = nn n) (h5 : s 12 5 = nn p) (hp : p ≤ n) : ∃ s', rd_nextToken s = rI (bi (tkOK T n (tkB T n p))) s' ∧ (∀ a, a ≠ 12 → s' a = s a) ∧ s' 12 2 = nn n ∧ s' 12 9 = s 12 9 ∧ s' 12 7 = nn (tkB T n p) ∧ (tkOK T n (tkB T n p) = true → s' 12 3 = s 12 3 ∧ s' 12 5 = nn (tkE T n (tkB T n p)) ∧ s' 12 6 = tkS T n (tkB T n p) ∧ (tkS T n (tkB T n p) = 2 → s' 12 8 = tkV T n (tkB T n p))) ∧ (tkOK T n (tkB T n p) = false → s' 12 3 = 1 ∧ s' 12 4 = nn (tkB T n p)) := by
  obtain ⟨s1, a1, a2, a3⟩ := skipC hn (n - p) p s hT h2 h5 (by omega)
  have bq := fnd_bd (spT T) (n - p) p
  have a1 : rd_nextToken s = rd_nextToken_38 s1 := a1
  have eB : tkB T n p = fnd (spT T) (n - p) p := rfl
  rw [← eB] at a2 bq
  generalize tkB T n p = q at *
  have t1 : s1 13 = T := by rw [a3.1 13 (by decide)]; exact hT
  have l1 : s1 12 2 = nn n := by rw [a3.2 2 rfl]; exact h2
  rw [a1, rd_nextToken_38_eq, a2, l1]
  have hb : q < n → inb (nn q) 240 = true := fun h => nn_b (i := q) (n := 240) (by omega) (by decide)
  by_cases c0 : q < n
  · rw [if_pos (ylt c0 (by omega)), hb c0, gd_t, gd_t, nn_n (by omega), t1]
    by_cases c1 : T q = 59
    · have eS : tkS T n q = 3 := by unfold tkS; rw [if_pos c0, if_pos c1]
      have eE : tkE T n q = q + 1 := by unfold tkE; rw [if_pos c0, if_pos c1]
      have eO : tkOK T n q = true := by unfold tkOK; rw [eS, if_neg (by decide)]
      rw [if_pos c1, eO, nn_s, eS, eE]
      refine ⟨wr (wr (wr s1 12 7 (nn q)) 12 6 3) 12 5 (nn (q + 1)), rfl, fun a ha => ?_, ?_, ?_, ?_, fun _ => ⟨?_, ?_, ?_, (fun z => absurd z (by decide))⟩, (fun z => by cases z)⟩
      · rw [wr_ne _ _ _ ha, wr_ne _ _ _ ha, wr_ne _ _ _ ha]; exact a3.1 a ha
      · rw [wr_at, upd_ne (by decide), wr_at, upd_ne (by decide), wr_at, upd_ne (by decide)]; exact l1
      · rw [wr_at, upd_ne (by decide), wr_at, upd_ne (by decide), wr_at, upd_ne (by decide)]; exact a3.2 9 rfl
      · rw [wr_at, upd_ne (by decide), wr_at, upd_ne (by decide), wr_at, upd_at]
      · rw [wr_at, upd_ne (by decide), wr_at, upd_ne (by decide), wr_at, upd_ne (by decide)]; exact a3.2 3 rfl
      · rw [wr_at, upd_at]
      · rw [wr_at, upd_ne (by decide), wr_at, upd_at]
    · rw [if_neg c1, LLw, bI_rI]
      by_cases c2 : wb (T q) 97 122 = 0
      · have q' : ¬ ltT T q = true := by unfold ltT; rw [decide_eq_true c2]; decide
        have eS : tkS T n q = 2 := by unfold tkS; rw [if_pos c0, if_neg c1, if_neg q']
        have eE : tkE T n q = fnd (dgT T) (n - q) q := by unfold tkE; rw [if_pos c0, if_neg c1, if_neg q']
        obtain ⟨s2, b1, b2, b3, b4⟩ := numC (T := T) hn (n - q) q (wr (wr (wr s1 12 7 (nn q)) 12 6 2) 12 8 0) 0 (by rw [wr_ne _ _ _ (by decide), wr_ne _ _ _ (by decide), wr_ne _ _ _ (by decide)]; exact t1) (by rw [wr_at, upd_ne (by decide), wr_at, upd_ne (by decide), wr_at, upd_ne (by decide)]; exact l1) (by rw [wr_at, upd_ne (by decide), wr_at, upd_ne (by decide), wr_at, upd_ne (by decide)]; exact a2) (by rw [wr_at, upd_at]) (by omega)
        have be := fnd_bd (dgT T) (n - q) q
        rw [← eE] at b2 be
        generalize hE : tkE T n q = e at *
        have m7 : s2 12 7 = nn q := by rw [b4.2 7 rfl, wr_at, upd_ne (by decide), wr_at, upd_ne (by decide), wr_at, upd_at]
        have m2 : s2 12 2 = nn n := by rw [b4.2 2 rfl, wr_at, upd_ne (by decide), wr_at, upd_ne (by decide), wr_at, upd_ne (by decide)]; exact l1
        have m9 : s2 12 9 = s 12 9 := by rw [b4.2 9 rfl, wr_at, upd_ne (by decide), wr_at, upd_ne (by decide), wr_at, upd_ne (by decide)]; exact a3.2 9 rfl
        have m3 : s2 12 3 = s 12 3 := by rw [b4.2 3 rfl, wr_at, upd_ne (by decide), wr_at, upd_ne (by decide), wr_at, upd_ne (by decide)]; exact a3.2 3 rfl
        have m6 : s2 12 6 = 2 := by rw [b4.2 6 rfl, wr_at, upd_ne (by decide), wr_at, upd_at]
        have mo : ∀ a, a ≠ 12 → s2 a = s a := fun a ha => by rw [b4.1 a ha, wr_ne _ _ _ ha, wr_ne _ _ _ ha, wr_ne _ _ _ ha]; exact a3.1 a ha
        have ed : nn e - nn q = nn (e - q) := nn_d be.1
        have hbz : ∀ b : Bool, bz (bi b) = true := by decide
        rw [if_pos c2, rd_nextNumber_eq, b1, rd_nextNumber_77_eq, b2, m7, ed, LLw, bI_rI, eS]
        by_cases c3 : 1 ≤ e - q ∧ e - q ≤ 3
        · have eO : tkOK T n q = true := by unfold tkOK; rw [eS, if_pos rfl, hE, decide_eq_true c3]
          have w3 : ¬ wb (nn (e - q)) 1 3 = 0 := fun z => by
            have := wb_y z
            have e1 : (1 : Int32).toInt = 1 := rfl
            have e3 : (3 : Int32).toInt = 3 := rfl
            have ei := nn_i (i := e - q) (by omega)
            omega
          rw [if_neg w3, bI_rI, eO]
          exact ⟨s2, rfl, mo, m2, m9, m7, fun _ => ⟨m3, b2, m6, fun _ => b3⟩, (fun z => by cases z)⟩
        · have eO : tkOK T n q = false := by unfold tkOK; rw [eS, if_pos rfl, hE, decide_eq_false c3]
          have w3 : wb (nn (e - q)) 1 3 = 0 := by
            rcases wb_01 (x := nn (e - q)) (a := 1) (b := 3) with z | z
            · exact z
            · exfalso
              have := wb_n (x := nn (e - q)) (a := 1) (b := 3) (by rw [z]; decide)
              have e1 : (1 : Int32).toInt = 1 := rfl
              have e3 : (3 : Int32).toInt = 3 := rfl
              have ei := nn_i (i := e - q) (by omega)
              omega
          rw [if_pos w3, rd_fail_eq, bI_rI, if_pos rfl, bI_rI, eO, m7]
          refine ⟨wr (wr s2 12 3 1) 12 4 (nn q), rfl, fun a ha => ?_, ?_, ?_, ?_, (fun z => by cases z), fun _ => ⟨?_, ?_⟩⟩
          · rw [wr_ne _ _ _ ha, wr_ne _ _ _ ha]; exact mo a ha
          · rw [wr_at, upd_ne (by decide), wr_at, upd_ne (by decide)]; exact m2
          · rw [wr_at, upd_ne (by decide), wr_at, upd_ne (by decide)]; exact m9
          · rw [wr_at, upd_ne (by decide), wr_at, upd_ne (by decide)]; exact m7
          · rw [wr_at, upd_ne (by decide), wr_at, upd_at]
          · rw [wr_at, upd_at]
      · have q' : ltT T q = true := by unfold ltT; rw [decide_eq_false c2]; rfl
        have eS : tkS T n q = 1 := by unfold tkS; rw [if_pos c0, if_neg c1, if_pos q']
        have eE : tkE T n q = fnd (ltT T) (n - q) q := by unfold tkE; rw [if_pos c0, if_neg c1, if_pos q']
        have eO : tkOK T n q = true := by unfold tkOK; rw [eS, if_neg (by decide)]
        obtain ⟨s2, b1, b2, b4⟩ := wordC (T := T) hn (n - q) q (wr (wr s1 12 7 (nn q)) 12 6 1) (by rw [wr_ne _ _ _ (by decide), wr_ne _ _ _ (by decide)]; exact t1) (by rw [wr_at, upd_ne (by decide), wr_at, upd_ne (by decide)]; exact l1) (by rw [wr_at, upd_ne (by decide), wr_at, upd_ne (by decide)]; exact a2) (by omega)
        rw [if_neg c2, b1, eO, eS, eE]
        refine ⟨s2, rfl, fun a ha => by rw [b4.1 a ha, wr_ne _ _ _ ha, wr_ne _ _ _ ha]; exact a3.1 a ha, ?_, ?_, ?_, fun _ => ⟨?_, b2, ?_, (fun z => absurd z (by decide))⟩, (fun z => by cases z)⟩
        · rw [b4.2 2 rfl, wr_at, upd_ne (by decide), wr_at, upd_ne (by decide)]; exact l1
        · rw [b4.2 9 rfl, wr_at, upd_ne (by decide), wr_at, upd_ne (by decide)]; exact a3.2 9 rfl
        · rw [b4.2 7 rfl, wr_at, upd_ne (by decide), wr_at, upd_at]
        · rw [b4.2 3 rfl, wr_at, upd_ne (by decide), wr_at, upd_ne (by decide)]; exact a3.2 3 rfl
        · rw [b4.2 6 rfl, wr_at, upd_at]
  · have eS : tkS T n q = 0 := by unfold tkS; rw [if_neg c0]
    have eE : tkE T n q = q := by unfold tkE; rw [if_neg c0]
    have eO : tkOK T n q = true := by unfold tkOK; rw [eS, if_neg (by decide)]
    rw [if_neg (nlt (by omega) (by omega)), eO, eS, eE]
    refine ⟨wr (wr s1 12 7 (nn q)) 12 6 0, rfl, fun a ha => by rw [wr_ne _ _ _ ha, wr_ne _ _ _ ha]; exact a3.1 a ha, ?_, ?_, ?_, fun _ => ⟨?_, ?_, ?_, (fun z => absurd z (by decide))⟩, (fun z => by cases z)⟩
    · rw [wr_at, upd_ne (by decide), wr_at, upd_ne (by decide)]; exact l1
    · rw [wr_at, upd_ne (by decide), wr_at, upd_ne (by decide)]; exact a3.2 9 rfl
    · rw [wr_at, upd_ne (by decide), wr_at, upd_at]
    · rw [wr_at, upd_ne (by decide), wr_at, upd_ne (by decide)]; exact a3.2 3 rfl
    · rw [wr_at, upd_ne (by decide), wr_at, upd_ne (by decide)]; exact a2
    · rw [wr_at, upd_at]
