/-! OPEN, CUT, LIT, ROOM; the case echo, the case count -/
theorem bi_dec {p : Prop} [Decidable p] (h : p) : bi (decide p) = 1 := by rw [decide_eq_true h]; rfl
theorem bi_ndec {p : Prop} [Decidable p] (h : ¬ p) : bi (decide p) = 0 := by rw [decide_eq_false h]; rfl
def opB (s : mSt) (b : Nat) : Bool := decide (s 35 1 < s 41 b)
theorem opC {s : mSt} {b : Nat} (hb : b < 8) : br_isOpen s (nn b) = rI (bi (opB s b)) s := by
  rw [br_isOpen_eq, nn_b hb (by decide), gd_t, nn_n (by omega)]
  unfold opB
  by_cases h : s 41 b ≤ s 35 1
  · rw [if_pos h, bi_ndec (by rw [Int32.not_lt]; exact h)]
  · rw [if_neg h, bi_dec (by rw [← Int32.not_le]; exact h)]
theorem opM {s : mSt} (hJ : J s) {b : Nat} (hb : (b : Int) < (s 35 2).toInt) : mo_isOpen s (nn b) = rI (bi (opB s b)) s := by
  obtain ⟨⟨eh, bh⟩, eb, bb⟩ := id (J_B hJ)
  have b8 := bb.2
  have b1 := bh.2
  obtain ⟨-, -, hc⟩ := (J_Y hJ).2 b hb
  rw [mo_isOpen_eq, nn_b (i := b) (n := 8) (by omega) (by decide), gd_t, nn_n (by omega), eh]
  unfold opB
  have em : (1000000 : Int32).toInt = 1000000 := rfl
  rcases hc with ⟨c1, c2, -⟩ | ⟨c1, c2, -⟩
  · rw [if_pos c2, c1, bi_dec (by rw [Int32.lt_iff_toInt_lt]; omega)]
  · have : ¬ s 214 b = -4 := fun q => by
      rw [c1] at q
      have h4 : (-4 : Int32).toInt = -4 := rfl
      have := c2.1
      rw [q] at this
      omega
    rw [if_neg this, gd_t, c1]
    by_cases h : s 41 b ≤ s 35 1
    · rw [if_pos h, bi_ndec (by rw [Int32.not_lt]; exact h)]
    · rw [if_neg h, bi_dec (by rw [← Int32.not_le]; exact h)]
def ctP (s : mSt) (l : Nat) (b : Nat) : Bool := decide (s 36 b = nn l) && opB s b
def nbr (s : mSt) : Nat := (s 35 2).toInt.toNat
def nln (s : mSt) : Nat := (s 25 5).toInt.toNat
def nld (s : mSt) : Nat := (s 25 2).toInt.toNat
def ndm (s : mSt) : Nat := (s 43 3).toInt.toNat
def nsh (s : mSt) : Nat := (s 129 3).toInt.toNat
def npl (s : mSt) : Nat := (s 166 3).toInt.toNat
def nrt (s : mSt) : Nat := (s 1 2).toInt.toNat
theorem cnt_of {x : Int32} {b : Nat} (h : bd x 0 b) : x = nn x.toInt.toNat ∧ x.toInt.toNat ≤ b ∧ x.toInt = ((x.toInt.toNat : Nat) : Int) := ⟨nn_x h.1, by have := h.2; omega, (Int.toNat_of_nonneg h.1).symm⟩
theorem nbr_ok {s : mSt} (hJ : J s) : s 35 2 = nn (nbr s) ∧ nbr s ≤ 8 ∧ (s 35 2).toInt = (nbr s : Int) := cnt_of (b := 8) (J_B hJ).2.2
theorem nln_ok {s : mSt} (hJ : J s) : s 25 5 = nn (nln s) ∧ nln s ≤ 12 ∧ (s 25 5).toInt = (nln s : Int) := cnt_of (b := 12) (J_N hJ).1.2.1.2
theorem nld_ok {s : mSt} (hJ : J s) : s 25 2 = nn (nld s) ∧ nld s ≤ 8 ∧ (s 25 2).toInt = (nld s : Int) := cnt_of (b := 8) (J_N hJ).1.1.2
theorem ndm_ok {s : mSt} (hJ : J s) : s 43 3 = nn (ndm s) ∧ ndm s ≤ 12 ∧ (s 43 3).toInt = (ndm s : Int) := cnt_of (b := 12) (J_D hJ).1.2
theorem nsh_ok {s : mSt} (hJ : J s) : s 129 3 = nn (nsh s) ∧ nsh s ≤ 3 ∧ (s 129 3).toInt = (nsh s : Int) := cnt_of (b := 3) (J_F hJ).1.2
theorem npl_ok {s : mSt} (hJ : J s) : s 166 3 = nn (npl s) ∧ npl s ≤ 8 ∧ (s 166 3).toInt = (npl s : Int) := cnt_of (b := 8) (J_P hJ).1.2
theorem nrt_ok {s : mSt} (hJ : J s) : s 1 2 = nn (nrt s) ∧ nrt s ≤ 8 ∧ (s 1 2).toInt = (nrt s : Int) := cnt_of (b := 8) (J_R hJ).1.2
def ctB (s : mSt) (l : Nat) : Bool := exB (ctP s l) (nbr s)
theorem ctC {s : mSt} (hJ : J s) (l : Nat) : br_isCut s (nn l) = rI (bi (ctB s l)) s := by
  obtain ⟨en, h8, -⟩ := nbr_ok hJ
  rw [br_isCut_eq]
  have key := loopE (σ := Unit) (fun _ i => br_isCut_2 s (nn l) (nn i)) (nbr s) (fun i _ => ∀ b, b < i → ctP s l b = false) (fun o => o = rI 1 s ∧ ctB s l = true) (i0 := 0) (s0 := ()) (fun i _ hi hI => by
    show (∃ s', br_isCut_2 s (nn l) (nn i) = br_isCut_2 s (nn l) (nn (i + 1)) ∧ _) ∨ (br_isCut_2 s (nn l) (nn i) = rI 1 s ∧ _)
    rw [br_isCut_2_eq s (nn l) (nn i), en, if_neg (nle hi (by omega)), nn_b (i := i) (n := 8) (by omega) (by decide), gd_t, nn_n (by omega), opC (by omega), bI_rI, bi_if, nn_s]
    by_cases c : ctP s l i = true
    · have c' : s 36 i = nn l ∧ opB s i = true := by
        unfold ctP at c
        rw [Bool.and_eq_true, decide_eq_true_iff] at c
        exact c
      rw [if_pos c'.1, if_pos c'.2]
      exact Or.inr ⟨rfl, exB_iff.mpr ⟨i, hi, c⟩⟩
    · have c2 : ctP s l i = false := by cases e : ctP s l i; rfl; exact absurd e c
      refine Or.inl ⟨(), ?_, fun b hb => ?_⟩
      · by_cases c3 : s 36 i = nn l
        · have : ¬ opB s i = true := fun q => c (by unfold ctP; rw [q, decide_eq_true c3]; rfl)
          rw [if_pos c3, if_neg this]
        · rw [if_neg c3]
      · by_cases e : b = i
        · rw [e]; exact c2
        · exact hI b (by omega)) (by omega) (fun b hb => by omega)
  rcases key with ⟨-, e1, e2⟩ | ⟨e1, e2⟩
  · have e1 : br_isCut_2 s (nn l) (nn 0) = br_isCut_2 s (nn l) (nn (nbr s)) := e1
    have : ctB s l = false := exB_f e2
    rw [this]
    exact e1.trans (by rw [br_isCut_2_eq, en, if_pos (yle (Nat.le_refl _) (by omega))]; rfl)
  · rw [e2]
    exact e1
theorem ctM {s : mSt} (hJ : J s) (l : Nat) : mo_isCut s (nn l) = rI (bi (ctB s l)) s := by
  obtain ⟨en, h8, ei⟩ := nbr_ok hJ
  obtain ⟨⟨eh, bh⟩, eb, bb⟩ := id (J_B hJ)
  obtain ⟨⟨q1, -⟩, -⟩ := id (J_Y hJ)
  rw [mo_isCut_eq]
  obtain ⟨c, e1, e2⟩ := loopS (σ := Bool) (fun c i => mo_isCut_4 s (nn l) (bi c) (nn i)) (nbr s) (fun i c => c = exB (ctP s l) i) (i0 := 0) (s0 := false) (fun i c hi hI => by
    show ∃ s', mo_isCut_4 s (nn l) (bi c) (nn i) = mo_isCut_4 s (nn l) (bi s') (nn (i + 1)) ∧ _
    rw [mo_isCut_4_eq s (nn l) (bi c) (nn i), eb, en, if_neg (nle hi (by omega)), nn_b (i := i) (n := 8) (by omega) (by decide), gd_t, nn_n (by omega), opM hJ (by omega), bI_rI, bi_if, bi_if, nn_s, q1]
    refine ⟨c || ctP s l i, ?_, by rw [hI]; rfl⟩
    cases c with
    | true => rw [if_pos rfl]; rfl
    | false =>
      rw [if_neg (by decide)]
      show _ = mo_isCut_4 s (nn l) (bi (ctP s l i)) (nn (i + 1))
      unfold ctP
      by_cases c1 : s 36 i = nn l
      · rw [if_pos c1, decide_eq_true c1, Bool.true_and]
        cases opB s i with
        | true => rw [if_pos rfl]; rfl
        | false => rw [if_neg (by decide)]; rfl
      · rw [if_neg c1, decide_eq_false c1, Bool.false_and]; rfl) (by omega) rfl
  have e1 : mo_isCut_4 s (nn l) 0 (nn 0) = mo_isCut_4 s (nn l) (bi c) (nn (nbr s)) := e1
  refine e1.trans ?_
  rw [mo_isCut_4_eq, eb, en, if_pos (yle (Nat.le_refl _) (by omega)), e2]
  show gd (bz (bi (ctB s l))) (rI (bi (ctB s l)) s) = _
  cases ctB s l <;> rfl
theorem rI_inj {a b : Int32} {s s' : mSt} (h : rI a s = rI b s') : a = b ∧ s = s' := by
  unfold rI at h
  cases h
  exact ⟨rfl, rfl⟩
/-! light -/
def ltV (s : mSt) (l : Nat) (y : Int32) : Int32 := (((s 2 0) - ((s 2 2) * (s 34 l))) - ((s 2 3) * (s 32 l))) - ((s 2 4) * (jMax 0 (y - (s 33 l))))
theorem ltC {s : mSt} {l : Nat} (hl : l < 12) (y : Int32) : ne_lightIn s (nn l) y = rI (ltV s l y) s := by
  rw [ne_lightIn_eq, nn_b hl (by decide), gd_t, gd_t, gd_t, nn_n (by omega)]; rfl
theorem ltM {s : mSt} (hJ : J s) {l : Nat} (hl : l < nln s) {y : Int32} (hy : bd y 0 1000) : mo_lightIn s (nn l) y = rI (ltV s l y) s := by
  obtain ⟨en, h12, ei⟩ := nln_ok hJ
  obtain ⟨v, k1, k2⟩ := lightBoth (J_N hJ) (J_R hJ).2.1 (x := nn l) (y := y) (by rw [nn_i (by omega)]; omega) (by rw [nn_i (by omega), ei]; omega) hy
  rw [ltC (by omega)] at k1
  rw [k2, (rI_inj k1).1]
def brB (s : mSt) (l : Nat) : Bool := decide (s 2 1 ≤ ltV s l (s 25 1))
theorem brC {s : mSt} {l : Nat} (hl : l < 12) : ne_isBright s (nn l) = rI (bi (brB s l)) s := by
  rw [ne_isBright_eq, ltC hl, bI_rI]
  unfold brB
  by_cases h : ltV s l (s 25 1) < s 2 1
  · rw [if_pos h, bi_ndec (by rw [Int32.not_le]; exact h)]
  · rw [if_neg h, bi_dec (by rw [← Int32.not_lt]; exact h)]
def stV (s : mSt) (l : Nat) : Int32 := if ctB s l = true then 2 else if brB s l = true then 0 else 1
theorem stC {s : mSt} (hJ : J s) {l : Nat} (hl : l < nln s) : br_stateOf s (nn l) = rI (stV s l) s := by
  obtain ⟨en, h12, ei⟩ := nln_ok hJ
  rw [br_stateOf_eq, ctC hJ, bI_rI, bi_if, brC (by omega), bI_rI, bi_if]
  unfold stV
  split
  · rfl
  · split <;> rfl
theorem stM {s : mSt} (hJ : J s) {l : Nat} (hl : l < nln s) : mo_stateOf s (nn l) = rI (stV s l) s := by
  obtain ⟨en, h12, ei⟩ := nln_ok hJ
  obtain ⟨-, -, ey, by1⟩ := id (J_N hJ).1
  rw [mo_stateOf_eq, ctM hJ, bI_rI, bi_if, ey, ltM hJ hl ⟨by1.1, by have := by1.2; omega⟩, bI_rI, (J_R hJ).2.1]
  unfold stV brB
  split
  · rfl
  · by_cases h : s 2 1 ≤ ltV s l (s 25 1)
    · rw [if_pos h, if_pos (decide_eq_true h)]
    · rw [if_neg h, if_neg (fun q => h (of_decide_eq_true q))]
/-- ROOM; w: all are taken as whole -/
def rmV (s : mSt) (w : Bool) (l : Nat) : Int32 := if (brB s l && (w || !ctB s l)) = true then s 2 5 * s 31 l else 0
theorem rmC {s : mSt} (hJ : J s) (w : Bool) {l : Nat} (hl : l < nln s) : br_roomOf s (nn l) (bi w) = rI (rmV s w l) s := by
  obtain ⟨en, h12, ei⟩ := nln_ok hJ
  have k : ∀ b : Bool, br_roomOf_28 s (nn l) (bi b) = rI (if b = true then s 2 5 * s 31 l else 0) s := fun b => by
    rw [br_roomOf_28_eq, bi_if, ne_fullRoom_eq, nn_b (i := l) (n := 12) (by omega) (by decide), gd_t, bI_rI, nn_n (by omega)]
    split <;> rfl
  have k0 : br_roomOf_28 s (nn l) 0 = rI 0 s := k false
  have k1 : br_roomOf_28 s (nn l) 1 = rI (s 2 5 * s 31 l) s := k true
  rw [br_roomOf_eq, brC (by omega), bI_rI, bi_if, bi_if, ctC hJ, bI_rI, bi_if, k0, k1]
  unfold rmV
  cases brB s l <;> cases w <;> cases ctB s l <;> rfl
theorem rmM {s : mSt} (hJ : J s) {l : Nat} (hl : l < nln s) : mo_roomOf s (nn l) = rI (rmV s false l) s := by
  obtain ⟨en, h12, ei⟩ := nln_ok hJ
  obtain ⟨-, ⟨-, -, -, -, -, p6, -⟩, -⟩ := id (J_N hJ)
  rw [mo_roomOf_eq, stM hJ hl, bI_rI, nn_b (i := l) (n := 12) (by omega) (by decide), gd_t, nn_n (by omega), (J_R hJ).2.1, p6]
  unfold rmV stV
  cases brB s l <;> cases ctB s l <;> rfl
/-! the case count -/
def cnB (p : Nat → Bool) : Nat → Int32
  | 0 => 0
  | n + 1 => cnB p n + bi (p n)
def litP (s : mSt) (l : Nat) : Bool := decide (stV s l = 0)
theorem c_opn {s : mSt} (hJ : J s) : br_openOnes s = rI (cnB (opB s) (nbr s)) s := by
  obtain ⟨en, h8, -⟩ := nbr_ok hJ
  rw [br_openOnes_eq]
  obtain ⟨c, e1, e2⟩ := loopS (σ := Int32) (fun c i => br_openOnes_4 s c (nn i)) (nbr s) (fun i c => c = cnB (opB s) i) (i0 := 0) (s0 := 0) (fun i c hi hI => by
    show ∃ s', br_openOnes_4 s c (nn i) = br_openOnes_4 s s' (nn (i + 1)) ∧ _
    rw [br_openOnes_4_eq s c (nn i), en, if_neg (nle hi (by omega)), opC (by omega), bI_rI, bi_if, nn_s]
    refine ⟨c + bi (opB s i), ?_, by rw [hI]; rfl⟩
    cases opB s i <;> rfl) (by omega) rfl
  have e1 : br_openOnes_4 s 0 (nn 0) = br_openOnes_4 s c (nn (nbr s)) := e1
  refine e1.trans ?_
  rw [br_openOnes_4_eq, en, if_pos (yle (Nat.le_refl _) (by omega)), e2]
theorem c_lit {s : mSt} (hJ : J s) : br_litLines s = rI (cnB (litP s) (nln s)) s := by
  obtain ⟨en, h8, -⟩ := nln_ok hJ
  rw [br_litLines_eq]
  obtain ⟨c, e1, e2⟩ := loopS (σ := Int32) (fun c i => br_litLines_4 s c (nn i)) (nln s) (fun i c => c = cnB (litP s) i) (i0 := 0) (s0 := 0) (fun i c hi hI => by
    show ∃ s', br_litLines_4 s c (nn i) = br_litLines_4 s s' (nn (i + 1)) ∧ _
    rw [br_litLines_4_eq s c (nn i), en, if_neg (nle hi (by omega)), stC hJ hi, bI_rI, nn_s]
    refine ⟨c + bi (litP s i), ?_, by rw [hI]; rfl⟩
    unfold litP
    by_cases h : stV s i = 0
    · rw [if_pos h, bi_dec h]
    · rw [if_neg h, bi_ndec h]) (by omega) rfl
  have e1 : br_litLines_4 s 0 (nn 0) = br_litLines_4 s c (nn (nln s)) := e1
  refine e1.trans ?_
  rw [br_litLines_4_eq, en, if_pos (yle (Nat.le_refl _) (by omega)), e2]
theorem mo_cnt {s : mSt} (hJ : J s) (x : Int32) : mo_count s x = mo_count_42 s x (cnB (opB s) (nbr s)) (cnB (litP s) (nln s)) (nn (nln s)) := by
  obtain ⟨en, h8, ei⟩ := nbr_ok hJ
  obtain ⟨el, h12, ej⟩ := nln_ok hJ
  have eb := (J_B hJ).2.1
  have e3 := (J_N hJ).1.2.1.1
  rw [mo_count_eq]
  obtain ⟨c, e1, e2⟩ := loopS (σ := Int32) (fun c i => mo_count_7 s x c 0 (nn i)) (nbr s) (fun i c => c = cnB (opB s) i) (i0 := 0) (s0 := 0) (fun i c hi hI => by
    show ∃ s', mo_count_7 s x c 0 (nn i) = mo_count_7 s x s' 0 (nn (i + 1)) ∧ _
    rw [mo_count_7_eq s x c 0 (nn i), eb, en, if_neg (nle hi (by omega)), opM hJ (by omega), bI_rI, bi_if, nn_s]
    refine ⟨c + bi (opB s i), ?_, by rw [hI]; rfl⟩
    cases opB s i <;> rfl) (by omega) rfl
  have e1 : mo_count_7 s x 0 0 (nn 0) = mo_count_7 s x c 0 (nn (nbr s)) := e1
  refine e1.trans ?_
  rw [mo_count_7_eq, eb, en, if_pos (yle (Nat.le_refl _) (by omega)), e2]
  obtain ⟨d, f1, f2⟩ := loopS (σ := Int32) (fun c i => mo_count_42 s x (cnB (opB s) (nbr s)) c (nn i)) (nln s) (fun i c => c = cnB (litP s) i) (i0 := 0) (s0 := 0) (fun i c hi hI => by
    show ∃ s', mo_count_42 s x (cnB (opB s) (nbr s)) c (nn i) = mo_count_42 s x (cnB (opB s) (nbr s)) s' (nn (i + 1)) ∧ _
    rw [mo_count_42_eq s x _ c (nn i), e3, el, if_neg (nle hi (by omega)), stM hJ hi, bI_rI, nn_s]
    refine ⟨c + bi (litP s i), ?_, by rw [hI]; rfl⟩
    unfold litP
    by_cases h : stV s i = 0
    · rw [if_pos h, bi_dec h]
    · rw [if_neg h, bi_ndec h]) (by omega) rfl
  rw [← f2]
  exact f1
theorem c_count : CS1 J LL_count mo_count := by
  intro s x hJ
  obtain ⟨el, h12, ej⟩ := nln_ok hJ
  obtain ⟨⟨⟨en, bn⟩, ⟨el3, bl⟩, ⟨ey, by1⟩⟩, -⟩ := id (J_N hJ)
  obtain ⟨⟨eh, bh⟩, eb, bb⟩ := id (J_B hJ)
  have e27 := (J_D hJ).1.1
  have e49 := (J_F hJ).1.1
  have e67 := (J_P hJ).1.1
  have e20 := (J_T hJ).1.1
  obtain ⟨⟨e5, hS⟩, -⟩ := id (J_S hJ)
  obtain ⟨-, hS0⟩ := hS 0 (by decide)
  have key : ∃ v, LL_count s x = rI v s ∧ mo_count s x = rI v s := by
    rw [mo_cnt hJ, mo_count_42_eq, el3, el, if_pos (yle (Nat.le_refl _) (by omega)), LL_count_eq, c_opn hJ, c_lit hJ, bI_rI, bI_rI]
    by_cases h0 : x = 0
    · rw [if_pos h0, if_pos h0, en]; exact ⟨_, rfl, rfl⟩
    rw [if_neg h0, if_neg h0]
    by_cases h1 : x = 1
    · rw [if_pos h1, if_pos h1, el]; exact ⟨_, rfl, rfl⟩
    rw [if_neg h1, if_neg h1]
    by_cases h2 : x = 2
    · rw [if_pos h2, if_pos h2, e27]; exact ⟨_, rfl, rfl⟩
    rw [if_neg h2, if_neg h2]
    by_cases h3 : x = 3
    · rw [if_pos h3, if_pos h3, eb]; exact ⟨_, rfl, rfl⟩
    rw [if_neg h3, if_neg h3]
    by_cases h4 : x = 4
    · rw [if_pos h4, if_pos h4]; exact ⟨_, rfl, rfl⟩
    rw [if_neg h4, if_neg h4]
    by_cases h5 : x = 5
    · rw [if_pos h5, if_pos h5, e49]; exact ⟨_, rfl, rfl⟩
    rw [if_neg h5, if_neg h5]
    by_cases h6 : x = 6
    · rw [if_pos h6, if_pos h6, e67]; exact ⟨_, rfl, rfl⟩
    rw [if_neg h6, if_neg h6]
    by_cases h7 : x = 7
    · rw [if_pos h7, if_pos h7, ey]; exact ⟨_, rfl, rfl⟩
    rw [if_neg h7, if_neg h7]
    by_cases h8 : x = 8
    · rw [if_pos h8, if_pos h8, eh]; exact ⟨_, rfl, rfl⟩
    rw [if_neg h8, if_neg h8]
    by_cases h9 : x = 9
    · rw [if_pos h9, if_pos h9]; exact ⟨_, rfl, rfl⟩
    rw [if_neg h9, if_neg h9]
    by_cases h10 : x = 10
    · rw [if_pos h10, if_pos h10, e20]; exact ⟨_, rfl, rfl⟩
    rw [if_neg h10, if_neg h10]
    by_cases h11 : x = 11
    · rw [if_pos h11, if_pos h11, sh_isNothing_eq, show inb 0 4 = true from rfl, gd_t]
      show ∃ v, (bI (if s 176 0 = -1 then rI 1 s else rI 0 s) _) = _ ∧ _
      rcases hS0 with ⟨l1, l2⟩ | ⟨l1, l2⟩
      · rw [if_pos l1, if_pos l2, bI_rI, if_neg (by decide)]
        exact ⟨_, rfl, rfl⟩
      · have n1 : ¬ s 176 0 = -1 := fun q => by rw [q] at l2; have h := l2.1; exact absurd h (by decide)
        have n4 : ¬ s 234 0 = -4 := fun q => by rw [l1] at q; rw [q] at l2; have h := l2.1; exact absurd h (by decide)
        rw [if_neg n1, if_neg n4, bI_rI, if_pos rfl, e5]
        exact ⟨_, rfl, rfl⟩
    rw [if_neg h11, if_neg h11]
    exact ⟨_, rfl, rfl⟩
  obtain ⟨v, k1, k2⟩ := key
  exact ⟨v, s, s, k1, k2, hJ⟩
/-! the case echo -/
theorem mw_0_198 (s : mSt) (x : Int32) : mo_in s x.toInt64 0 198 = rI (wb x 0 198) s := mowc s x 0 198 rfl rfl
theorem ec95 {s : mSt} {x a z : Int32} (hx : inb x 8 = true) : mo_echo_95 s x a z = if jMax (s 212 x.toNatClampNeg) a ≤ jMin (s 213 x.toNatClampNeg) z then (if s 214 x.toNatClampNeg = -4 then rI ((jMin (s 213 x.toNatClampNeg) z - jMax (s 212 x.toNatClampNeg) a) + 1) (wr (wr s 212 x.toNatClampNeg (jMax (s 212 x.toNatClampNeg) a)) 213 x.toNatClampNeg (jMin (s 213 x.toNatClampNeg) z)) else rI (-2) s) else rI (-2) s := by
  have k143 : ∀ lo hi : Int32, mo_echo_143 s x lo hi = if lo ≤ hi then (if s 214 x.toNatClampNeg = -4 then rI ((hi - lo) + 1) (wr (wr s 212 x.toNatClampNeg lo) 213 x.toNatClampNeg hi) else rI (-2) s) else rI (-2) s := fun lo hi => by
    rw [mo_echo_143_eq, hx, gd_t, gd_t, gd_t]
    by_cases h : hi < lo
    · rw [if_pos h, if_neg (Int32.not_le.mpr h)]
    · rw [if_neg h, if_pos (Int32.not_lt.mp h)]
  have k119 : ∀ lo z : Int32, mo_echo_119 s x z lo = mo_echo_143 s x lo (jMin (s 213 x.toNatClampNeg) z) := fun lo z => by
    rw [mo_echo_119_eq, hx, gd_t, gd_t]
    unfold jMin
    by_cases h : z < s 213 x.toNatClampNeg
    · rw [if_pos h, if_neg (by rw [Int32.not_le]; exact h)]
    · rw [if_neg h, if_pos (by rw [← Int32.not_lt]; exact h)]
  have k95 : mo_echo_95 s x a z = mo_echo_119 s x z (jMax (s 212 x.toNatClampNeg) a) := by
    rw [mo_echo_95_eq, hx, gd_t, gd_t]
    unfold jMax
    by_cases h : s 212 x.toNatClampNeg < a
    · rw [if_pos h, if_neg (by rw [Int32.not_le]; exact h)]
    · rw [if_neg h, if_pos (by rw [← Int32.not_lt]; exact h)]
  rw [k95, k119, k143]
