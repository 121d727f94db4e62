/-! the case read -/
theorem first_bad {P : Nat → Prop} : ∀ n : Nat, (∀ d, d < n → P d) ∨ ∃ d, d < n ∧ ¬ P d ∧ ∀ e, e < d → P e := by
  intro n
  induction n with
  | zero => exact Or.inl (fun d hd => by omega)
  | succ n ih =>
    rcases ih with h | ⟨d, h1, h2, h3⟩
    · by_cases c : P n
      · refine Or.inl (fun d hd => ?_)
        by_cases e : d = n
        · rw [e]; exact c
        · exact h d (by omega)
      · exact Or.inr ⟨n, by omega, c, h⟩
    · exact Or.inr ⟨d, by omega, h2, h3⟩
/-- the cell of a demand -/
def rdC (s : mSt) (k : Nat) (f : Int32) (d : Nat) : Int32 := s (179 + k) (f.toInt + d).toNat
def rdI (s : mSt) (k : Nat) (f : Int32) (d : Nat) : Prop := 0 ≤ f.toInt + d ∧ f.toInt + d < (s 177 k).toInt
def rdG (s : mSt) (k : Nat) (f : Int32) (d : Nat) : Prop := rdI s k f d ∧ ¬ wb (rdC s k f d) 0 99 = 0
def rdS (s : mSt) (k : Nat) (f : Int32) : Nat → Int32
  | 0 => 0
  | n + 1 => rdS s k f n + rdC s k f n
section RDS
variable {s : mSt} {k : Nat} {f : Int32}
theorem rd_add (hs : (s 177 k).toInt ≤ 40) {d : Nat} (hd : d < 12) (h : ∀ e, e < d → rdG s k f e) : (f + nn d).toInt = f.toInt + d := by
  match d, hd, h with
  | 0, _, _ => rw [show nn 0 = 0 from rfl, Int32.add_zero]; omega
  | d + 1, hd, h =>
    have := (h 0 (by omega)).1
    unfold rdI at this
    rw [i32_add (by rw [nn_i (by omega)]; omega) (by rw [nn_i (by omega)]; omega), nn_i (by omega)]
theorem rd_hc (hk : k < 4) (bs : bd (s 177 k) 0 40) (y : Int32) : sh_hasCell s (nn k) y = rI (wb y 0 (s 177 k - 1)) s := by
  rw [sh_hasCell_eq, nn_b hk (by decide), gd_t, nn_n (by omega), ← has_wb bs (by decide)]
  split
  · rfl
  · split <;> rfl
theorem rd_iff (bs : bd (s 177 k) 0 40) {d : Nat} (hd : d < 12) (h : ∀ e, e < d → rdG s k f e) : (¬ wb (f + nn d) 0 (s 177 k - 1) = 0) ↔ rdI s k f d := by
  have e := rd_add bs.2 hd h
  have e1 : (1 : Int32).toInt = 1 := rfl
  have e0 : (0 : Int32).toInt = 0 := rfl
  have b1 := bs.1
  have b2 := bs.2
  have es : (s 177 k - 1).toInt = (s 177 k).toInt - 1 := by rw [i32_sub (by omega) (by omega), e1]
  unfold rdI
  constructor
  · intro q
    have := wb_lt bs (by decide) q
    omega
  · intro q c
    have := wb_y c
    omega
/-- the class's first row -/
theorem rd60 (hk : k < 4) (bs : bd (s 177 k) 0 40) {n : Nat} (en : s 43 3 = nn n) (hn : n ≤ 12) {d : Nat} (hd : d ≤ n) (h : ∀ e, e < d → rdG s k f e) : LL_read_60 s (nn k) f 0 0 = LL_read_60 s (nn k) f (rdS s k f d) (nn d) := by
  have b2 := bs.2
  induction d with
  | zero => rfl
  | succ d ih =>
    have h' : ∀ e, e < d → rdG s k f e := fun e he => h e (by omega)
    rw [ih (by omega) h']
    obtain ⟨g1, g2⟩ := h d (by omega)
    have hi := (rd_iff bs (by omega) h').mpr g1
    have e := rd_add bs.2 (by omega) h'
    unfold rdI at g1
    rw [LL_read_60_eq, en, if_neg (nle (by omega) (by omega)), rd_hc hk bs, bI_rI, if_neg hi, nn_b hk (by decide), gd_t, nn_n (by omega), blt_t hk, gd_t, inb_of (x := f + nn d) (n := 40) (by omega) (by omega), gd_t, LLw, bI_rI, nn_s]
    have et : s (179 + k) (f + nn d).toNatClampNeg = rdC s k f d := by
      show s (179 + k) (f + nn d).toInt.toNat = s (179 + k) (f.toInt + d).toNat
      rw [e]
    rw [et, if_neg g2]
    rfl
theorem rd60_bad (hk : k < 4) (bs : bd (s 177 k) 0 40) {n : Nat} (en : s 43 3 = nn n) (hn : n ≤ 12) {d : Nat} (hd : d < n) (h : ∀ e, e < d → rdG s k f e) (hb : ¬ rdG s k f d) : LL_read_60 s (nn k) f 0 0 = rI (if wb (f + nn d) 0 (s 177 k - 1) = 0 then -12 else (-20) - nn d) s := by
  have b2 := bs.2
  rw [rd60 hk bs en hn (by omega) h, LL_read_60_eq, en, if_neg (nle (by omega) (by omega)), rd_hc hk bs, bI_rI]
  by_cases c : wb (f + nn d) 0 (s 177 k - 1) = 0
  · rw [if_pos c, if_pos c]
  · have g1 := (rd_iff bs (by omega) h).mp c
    have e := rd_add bs.2 (by omega) h
    have g2 : wb (rdC s k f d) 0 99 = 0 := by
      by_cases q : wb (rdC s k f d) 0 99 = 0
      · exact q
      · exact absurd ⟨g1, q⟩ hb
    unfold rdI at g1
    have et : s (179 + k) (f + nn d).toNatClampNeg = rdC s k f d := by
      show s (179 + k) (f + nn d).toInt.toNat = s (179 + k) (f.toInt + d).toNat
      rw [e]
    rw [if_neg c, if_neg c, nn_b hk (by decide), gd_t, nn_n (by omega), blt_t hk, gd_t, inb_of (x := f + nn d) (n := 40) (by omega) (by omega), gd_t, LLw, bI_rI, et, if_pos g2]
/-- the reference's first row, one step -/
theorem rd42 (hS : JS s) (hk : k < 4) {g : mSt} (q5 : g 235 = s 235) (q6 : g 236 = s 236) {n : Nat} (en : g 183 27 = nn n) (hn : n ≤ 12) {d : Nat} (hd : d < n) (h : ∀ e, e < d → rdG s k f e) : mo_read_42 g (nn k) f (nn d) = if wb (f + nn d) 0 (s 177 k - 1) = 0 then rI (-12) g else if wb (rdC s k f d) 0 99 = 0 then rI ((-20) - nn d) g else mo_read_42 g (nn k) f (nn (d + 1)) := by
  obtain ⟨⟨e5, h2⟩, h3⟩ := id hS
  obtain ⟨bs, -⟩ := h2 k hk
  have b1 := bs.1
  have b2 := bs.2
  have e := rd_add bs.2 (by omega) h
  have ew : f.toInt64 + (nn d).toInt64 = (f + nn d).toInt64 := by
    apply Int64.toInt_inj.mp
    have i1 := Int32.toInt_toInt64 f
    have i2 := Int32.toInt_toInt64 (nn d)
    have i3 := Int32.toInt_toInt64 (f + nn d)
    have i4 := nn_i (i := d) (by omega)
    have l1 := Int32.toInt_lt f
    have l2 := Int32.le_toInt f
    rw [Int64.toInt_add, i1, i2, i3, i4, e, Int.bmod_def]
    split <;> omega
  have e1 : (1 : Int32).toInt = 1 := rfl
  have e0 : (0 : Int32).toInt = 0 := rfl
  have es : (s 177 k - 1).toInt = (s 177 k).toInt - 1 := by rw [i32_sub (by omega) (by omega), e1]
  rw [mo_read_42_eq, en, if_neg (nle hd (by omega)), ew, nn_b hk (by decide), gd_t, nn_n (by omega), q5, e5]
  by_cases c : wb (f + nn d) 0 (s 177 k - 1) = 0
  · rw [if_pos c]
    have := wb_y c
    by_cases c1 : lg_cmp (f + nn d).toInt64 0 < 0
    · rw [if_pos c1]
    · have c2 : ¬ f + nn d < 0 := fun q => c1 (cmp_lt (y := 0).mpr q)
      rw [Int32.lt_iff_toInt_lt] at c2
      rw [if_neg c1, if_neg (fun q => by have := cmp_lt.mp q; rw [Int32.lt_iff_toInt_lt] at this; omega)]
  · have g1 := (rd_iff bs (by omega) h).mp c
    unfold rdI at g1
    rw [if_neg c, if_neg (fun q => by have := (cmp_lt (y := 0)).mp q; rw [Int32.lt_iff_toInt_lt] at this; omega), if_pos (cmp_lt.mpr (by rw [Int32.lt_iff_toInt_lt]; omega)), Int32.toInt32_toInt64]
    have r40 : (40 : Int32) * nn k = nn (40 * k) := nn_m 40 k
    have ea : (nn (40 * k) + (f + nn d)).toInt = 40 * k + (f.toInt + d) := by
      rw [i32_add (by rw [nn_i (by omega)]; omega) (by rw [nn_i (by omega)]; omega), nn_i (by omega), e]
      omega
    have et : g 236 (nn (40 * k) + (f + nn d)).toNatClampNeg = rdC s k f d := by
      rw [q6]
      show s 236 (nn (40 * k) + (f + nn d)).toInt.toNat = s (179 + k) (f.toInt + d).toNat
      rw [h3 k (f.toInt + d).toNat hk (by omega), ea]
      congr 1
      omega
    rw [r40, inb_of (x := nn (40 * k) + (f + nn d)) (n := 160) (by omega) (by omega), gd_t, et, mw_0_99, bI_rI, nn_s]
theorem rd42_all (hS : JS s) (hk : k < 4) {g : mSt} (q5 : g 235 = s 235) (q6 : g 236 = s 236) {n : Nat} (en : g 183 27 = nn n) (hn : n ≤ 12) {d : Nat} (hd : d ≤ n) (h : ∀ e, e < d → rdG s k f e) : mo_read_42 g (nn k) f 0 = mo_read_42 g (nn k) f (nn d) := by
  induction d with
  | zero => rfl
  | succ d ih =>
    have h' : ∀ e, e < d → rdG s k f e := fun e he => h e (by omega)
    obtain ⟨g1, g2⟩ := h d (by omega)
    have bs := (hS.1.2 k hk).1
    rw [ih (by omega) h', rd42 hS hk q5 q6 en hn (by omega) h', if_neg ((rd_iff bs (by omega) h').mpr g1), if_neg g2]
/-- the class's second row -/
theorem rd139 (hk : k < 4) (bs : bd (s 177 k) 0 40) {n : Nat} (hn : n ≤ 12) (v : Int32) (h : ∀ e, e < n → rdG s k f e) : ∀ (m : Nat) (g : mSt) (d : Nat), d + m = n → g 43 3 = nn n → g (179 + k) = s (179 + k) → ∃ g', LL_read_139 g (nn k) f v (nn d) = rI v g' ∧ (∀ a, a ≠ 46 → g' a = g a) ∧ ∀ j, g' 46 j = if d ≤ j ∧ j < n then rdC s k f j else g 46 j := by
  have b2 := bs.2
  intro m
  induction m with
  | zero =>
    intro g d h1 h2 _
    exact ⟨g, by rw [LL_read_139_eq, h2, if_pos (yle (by omega) (by omega))], fun _ _ => rfl, fun j => by rw [if_neg (by omega)]⟩
  | succ m ih =>
    intro g d h1 h2 h3
    have e := rd_add bs.2 (by omega) (fun e he => h e (by omega) : ∀ e, e < d → rdG s k f e)
    have g1 := (h d (by omega)).1
    unfold rdI at g1
    obtain ⟨g', k1, k2, k3⟩ := ih (wr g 46 d (rdC s k f d)) (d + 1) (by omega) h2 (by rw [wr_ne _ _ _ (by omega)]; exact h3)
    have et : g (179 + k) (f + nn d).toNatClampNeg = rdC s k f d := by
      rw [h3]
      show s (179 + k) (f + nn d).toInt.toNat = s (179 + k) (f.toInt + d).toNat
      rw [e]
    refine ⟨g', ?_, fun a ha => by rw [k2 a ha, wr_ne _ _ _ ha], fun j => ?_⟩
    · rw [LL_read_139_eq, h2, if_neg (nle (by omega) (by omega)), nn_b hk (by decide), gd_t, nn_n (by omega), blt_t hk, gd_t, inb_of (x := f + nn d) (n := 40) (by omega) (by omega), gd_t, nn_b (i := d) (n := 12) (by omega) (by decide), gd_t, nn_n (by omega), et, nn_s, k1]
    · rw [k3 j, wr_at]
      by_cases c : d + 1 ≤ j ∧ j < n
      · rw [if_pos c, if_pos (by omega)]
      · rw [if_neg c]
        by_cases c2 : j = d
        · rw [c2, upd_at, if_pos (by omega)]
        · rw [upd_ne c2, if_neg (by omega)]
theorem rd124 (hS : JS s) (hk : k < 4) {n : Nat} (hn : n ≤ 12) (h : ∀ e, e < n → rdG s k f e) : ∀ (m : Nat) (g : mSt) (d : Nat), d + m = n → g 183 27 = nn n → g 236 = s 236 → ∃ g', mo_read_124 g (nn k) f (rdS s k f d) (nn d) = rI (rdS s k f n) g' ∧ (∀ a, a ≠ 200 → g' a = g a) ∧ ∀ j, g' 200 j = if d ≤ j ∧ j < n then rdC s k f j else g 200 j := by
  obtain ⟨⟨e5, h2⟩, h3⟩ := id hS
  obtain ⟨bs, -⟩ := h2 k hk
  have b2 := bs.2
  intro m
  induction m with
  | zero =>
    intro g d h1 h2 _
    have : d = n := by omega
    subst this
    exact ⟨g, by rw [mo_read_124_eq, h2, if_pos (yle (by omega) (by omega))], fun _ _ => rfl, fun j => by rw [if_neg (by omega)]⟩
  | succ m ih =>
    intro g d h1 hg hq
    have e := rd_add bs.2 (by omega) (fun e he => h e (by omega) : ∀ e, e < d → rdG s k f e)
    have g1 := (h d (by omega)).1
    unfold rdI at g1
    obtain ⟨g', k1, k2, k3⟩ := ih (wr g 200 d (rdC s k f d)) (d + 1) (by omega) hg hq
    have r40 : (40 : Int32) * nn k = nn (40 * k) := nn_m 40 k
    have ez : nn (40 * k) + f + nn d = nn (40 * k) + (f + nn d) := Int32.add_assoc _ _ _
    have ea : (nn (40 * k) + (f + nn d)).toInt = 40 * k + (f.toInt + d) := by
      rw [i32_add (by rw [nn_i (by omega)]; omega) (by rw [nn_i (by omega)]; omega), nn_i (by omega), e]
      omega
    have et : g 236 (nn (40 * k) + (f + nn d)).toNatClampNeg = rdC s k f d := by
      rw [hq]
      show s 236 (nn (40 * k) + (f + nn d)).toInt.toNat = s (179 + k) (f.toInt + d).toNat
      rw [h3 k (f.toInt + d).toNat hk (by omega), ea]
      congr 1
      omega
    refine ⟨g', ?_, fun a ha => by rw [k2 a ha, wr_ne _ _ _ ha], fun j => ?_⟩
    · rw [mo_read_124_eq, hg, if_neg (nle (by omega) (by omega)), r40, ez, inb_of (x := nn (40 * k) + (f + nn d)) (n := 160) (by omega) (by omega), gd_t, nn_b (i := d) (n := 12) (by omega) (by decide), gd_t, gd_t, nn_n (by omega), et, nn_s, wr_at, upd_at]
      exact k1
    · rw [k3 j, wr_at]
      by_cases c : d + 1 ≤ j ∧ j < n
      · rw [if_pos c, if_pos (by omega)]
      · rw [if_neg c]
        by_cases c2 : j = d
        · rw [c2, upd_at, if_pos (by omega)]
        · rw [upd_ne c2, if_neg (by omega)]
end RDS
theorem laneC (s : mSt) (y : Int32) : sh_isLane s y = rI (wb y 0 2) s := by
  rw [sh_isLane_eq]
  unfold wb
  split
  · rfl
  · split <;> rfl
theorem c_read : CS3 J LL_read mo_read := by
  intro s x y f hJ
  have hS := J_S hJ
  obtain ⟨⟨e5, h2⟩, h3⟩ := id hS
  obtain ⟨⟨ed, bd'⟩, ⟨p1, p2, p3⟩, hd⟩ := id (J_D hJ)
  obtain ⟨en, hn, ei⟩ := ndm_ok hJ
  have r0 : (0 : Int32).toInt = 0 := rfl
  have r3 : (3 : Int32).toInt = 3 := rfl
  by_cases k1 : wb x 0 3 = 0
  · exact ⟨-1, s, s, by rw [LL_read_eq, shHas, bI_rI, if_pos k1], by rw [mo_read_eq, moSheet, if_pos k1, bI_rI, if_pos rfl], hJ⟩
  by_cases k2 : wb y 0 2 = 0
  · exact ⟨-1, s, s, by rw [LL_read_eq, shHas, bI_rI, if_neg k1, laneC, bI_rI, if_pos k2], by rw [mo_read_eq, moSheet, if_neg k1, if_pos k2, bI_rI, if_pos rfl], hJ⟩
  have wx := wb_n k1
  obtain ⟨k, ek, hk, -, -⟩ := nn_of (x := x) (b := 3) ⟨by omega, by omega⟩
  subst ek
  have hk4 : k < 4 := by omega
  have hi : inb (nn k) 4 = true := nn_b hk4 (by decide)
  have hkn : (nn k).toNatClampNeg = k := nn_n (by omega)
  obtain ⟨bs, hl⟩ := h2 k hk4
  have ms : ∀ g : mSt, mo_isSheet g (nn k) y = rI 1 g := fun g => by rw [moSheet, if_neg k1, if_neg k2]
  have wy := wb_n k2
  rcases hl with ⟨l1, l2⟩ | ⟨l1, l2⟩
  · refine ⟨-11, s, s, by rw [LL_read_eq, shHas, bI_rI, if_neg k1, laneC, bI_rI, if_neg k2, sh_isNothing_eq, hi, gd_t, hkn, if_pos l1, bI_rI, if_neg (by decide)], ?_, hJ⟩
    have : ¬ s 234 k = y := fun q => by
      rw [l2] at q
      rw [← q] at wy
      have e4 : (-4 : Int32).toInt = -4 := rfl
      omega
    rw [mo_read_eq, ms, bI_rI, if_neg (by decide), hi, gd_t, hkn, if_neg this, gd_t, if_pos l2]
  have n1 : ¬ s 176 k = -1 := fun q => by rw [q] at l2; have h := l2.1; exact absurd h (by decide)
  have n4 : ¬ s 234 k = -4 := fun q => by rw [l1] at q; rw [q] at l2; have h := l2.1; exact absurd h (by decide)
  by_cases k3 : s 176 k = y
  · have cls : LL_read s (nn k) y f = LL_read_60 s (nn k) f 0 0 := by
      rw [LL_read_eq, shHas, bI_rI, if_neg k1, laneC, bI_rI, if_neg k2, sh_isNothing_eq, hi, gd_t, hkn, if_neg n1, bI_rI, if_pos rfl, gd_t, if_pos k3]
    have ref : ∀ g : mSt, g 234 = s 234 → mo_read g (nn k) y f = mo_read_42 g (nn k) f 0 := fun g hg => by
      rw [mo_read_eq, ms, bI_rI, if_neg (by decide), hi, gd_t, hkn, hg, l1, if_pos k3]
    rcases first_bad (P := rdG s k f) (ndm s) with hall | ⟨d, d1, d2, d3⟩
    · obtain ⟨g, a1, a2, a3⟩ := rd139 hk4 bs hn (rdS s k f (ndm s)) hall (ndm s) s 0 (by omega) en rfl
      have g27 : g 183 27 = nn (ndm s) := by rw [a2 183 (by decide), ed, en]
      obtain ⟨g', b1, b2, b3⟩ := rd124 hS hk4 hn hall (ndm s) g 0 (by omega) g27 (a2 236 (by decide))
      refine ⟨rdS s k f (ndm s), g, g', ?_, ?_, ?_⟩
      · rw [cls, rd60 hk4 bs en hn (Nat.le_refl _) hall, LL_read_60_eq, en, if_pos (yle (Nat.le_refl _) (by omega))]
        exact a1
      · rw [ref g (a2 234 (by decide)), rd42_all hS hk4 (a2 235 (by decide)) (a2 236 (by decide)) g27 hn (Nat.le_refl _) hall, mo_read_42_eq, g27, if_pos (yle (Nat.le_refl _) (by omega))]
        exact b1
      · have f0 : ∀ a, a ≠ 46 → a ≠ 200 → g' a = s a := fun a h1 h2 => by rw [b2 a h2, a2 a h1]
        have ec : ∀ j, g' 46 j = if 0 ≤ j ∧ j < ndm s then rdC s k f j else s 46 j := fun j => by rw [b2 46 (by decide), a3 j]
        have em : ∀ j, g' 200 j = if 0 ≤ j ∧ j < ndm s then rdC s k f j else s 46 j := fun j => by rw [b3 j, a2 200 (by decide), p3]
        refine J_butD ⟨fun a ha => ?_, fun q hq => ?_⟩ hJ ⟨⟨?_, ?_⟩, ⟨?_, ?_, ?_⟩, fun j hj => ?_⟩ ⟨fun j hj => ?_, fun j hj => ?_⟩
        · have : ∀ a ∈ uD, a ≠ 46 ∧ a ≠ 200 := by decide
          obtain ⟨m1, m2⟩ := this a ha
          exact f0 a m1 m2
        · rw [f0 183 (by decide) (by decide)]
        · rw [f0 183 (by decide) (by decide), f0 43 (by decide) (by decide)]; exact ed
        · rw [f0 43 (by decide) (by decide)]; exact bd'
        · rw [f0 198 (by decide) (by decide), f0 44 (by decide) (by decide)]; exact p1
        · rw [f0 199 (by decide) (by decide), f0 45 (by decide) (by decide)]; exact p2
        · funext j
          rw [em j, ec j]
        · rw [f0 43 (by decide) (by decide)] at hj
          rw [f0 44 (by decide) (by decide), f0 45 (by decide) (by decide), ec j, if_pos (by omega)]
          refine ⟨(hd j hj).1, ?_⟩
          have := wb_n (hall j (by omega)).2
          have r99 : (99 : Int32).toInt = 99 := rfl
          exact ⟨by omega, by omega⟩
        · rw [f0 43 (by decide) (by decide)] at hj
          rw [f0 44 (by decide) (by decide), f0 45 (by decide) (by decide), f0 25 (by decide) (by decide)]
          exact (J_X hJ).1 j hj
        · rw [f0 166 (by decide) (by decide)] at hj
          rw [f0 167 (by decide) (by decide), f0 168 (by decide) (by decide), f0 25 (by decide) (by decide)]
          exact (J_X hJ).2 j hj
    · have e27 : s 183 27 = nn (ndm s) := by rw [ed, en]
      refine ⟨_, s, s, by rw [cls, rd60_bad hk4 bs en hn d1 d3 d2], ?_, hJ⟩
      rw [ref s rfl, rd42_all hS hk4 rfl rfl e27 hn (by omega) d3, rd42 hS hk4 rfl rfl e27 hn d1 d3]
      by_cases c : wb (f + nn d) 0 (s 177 k - 1) = 0
      · rw [if_pos c, if_pos c]
      · have g1 := (rd_iff bs (by omega) d3).mp c
        have g2 : wb (rdC s k f d) 0 99 = 0 := by
          by_cases q : wb (rdC s k f d) 0 99 = 0
          · exact q
          · exact absurd ⟨g1, q⟩ d2
        rw [if_neg c, if_neg c, if_pos g2]
  · refine ⟨-13, s, s, ?_, ?_, hJ⟩
    · rw [LL_read_eq, shHas, bI_rI, if_neg k1, laneC, bI_rI, if_neg k2, sh_isNothing_eq, hi, gd_t, hkn, if_neg n1, bI_rI, if_pos rfl, gd_t, if_neg k3]
    · rw [mo_read_eq, ms, bI_rI, if_neg (by decide), hi, gd_t, hkn, if_neg (by rw [l1]; exact k3), gd_t, if_neg n4]
