/-! PLACES of a line, hours to a break; the cases echo, breakOf -/
def axV (s : mSt) (l : Nat) : Int32 := s 26 (s 28 l).toNatClampNeg
def zxV (s : mSt) (l : Nat) : Int32 := s 26 (s 29 l).toNatClampNeg
def ayV (s : mSt) (l : Nat) : Int32 := s 27 (s 28 l).toNatClampNeg
def zyV (s : mSt) (l : Nat) : Int32 := s 27 (s 29 l).toNatClampNeg
def dxV (s : mSt) (l : Nat) : Int32 := jAbs (zxV s l - axV s l)
def pxV (s : mSt) (l : Nat) (p : Int32) : Int32 := if axV s l ≤ zxV s l then axV s l + jMin p (dxV s l) else axV s l - jMin p (dxV s l)
def pyV (s : mSt) (l : Nat) (p : Int32) : Int32 := if ayV s l ≤ zyV s l then ayV s l + jMax 0 (p - dxV s l) else ayV s l - jMax 0 (p - dxV s l)
section PLS
variable {s : mSt} (hN : JN s) {l : Nat} (hl : (l : Int) < (s 25 5).toInt)
theorem ends_b (hN : JN s) (hl : (l : Int) < (s 25 5).toInt) : l < 12 ∧ inb (s 28 l) 8 = true ∧ inb (s 29 l) 8 = true := by
  obtain ⟨⟨⟨en, bn⟩, ⟨el, bl⟩, -⟩, -, -, hLn⟩ := id hN
  obtain ⟨⟨l1, l2, -⟩, -⟩ := hLn l hl
  have := bl.2
  have := bn.2
  have := l1.2
  have := l2.2
  exact ⟨by omega, inb_of l1.1 (by omega), inb_of l2.1 (by omega)⟩
theorem ends_v (hN : JN s) (l : Nat) : bd (axV s l) 0 99 ∧ bd (zxV s l) 0 99 ∧ bd (ayV s l) 0 99 ∧ bd (zyV s l) 0 99 := ⟨(hN.2.2.1 _).1, (hN.2.2.1 _).1, (hN.2.2.1 _).2, (hN.2.2.1 _).2⟩
theorem dx_i (hN : JN s) (l : Nat) : ((axV s l).toInt ≤ (zxV s l).toInt ∧ (dxV s l).toInt = (zxV s l).toInt - (axV s l).toInt) ∨ ((zxV s l).toInt < (axV s l).toInt ∧ (dxV s l).toInt = (axV s l).toInt - (zxV s l).toInt) := by
  obtain ⟨⟨a1, a2⟩, ⟨b1, b2⟩, -⟩ := ends_v hN l
  have e := i32_sub (a := zxV s l) (b := axV s l) (by omega) (by omega)
  have f := jAbs_i (x := zxV s l - axV s l) (by omega)
  unfold dxV
  omega
theorem len_i (hN : JN s) (hl : (l : Int) < (s 25 5).toInt) : ((ayV s l).toInt ≤ (zyV s l).toInt ∧ (s 34 l).toInt = (dxV s l).toInt + ((zyV s l).toInt - (ayV s l).toInt)) ∨ ((zyV s l).toInt < (ayV s l).toInt ∧ (s 34 l).toInt = (dxV s l).toInt + ((ayV s l).toInt - (zyV s l).toInt)) := by
  obtain ⟨⟨a1, a2⟩, ⟨b1, b2⟩, ⟨c1, c2⟩, ⟨d1, d2⟩⟩ := ends_v hN l
  have q := dx_i hN l
  obtain ⟨-, -, -, -, -, l8⟩ := hN.2.2.2 l hl
  have l8 : s 34 l = jAbs (axV s l - zxV s l) + jAbs (ayV s l - zyV s l) := l8
  have e1 := i32_sub (a := axV s l) (b := zxV s l) (by omega) (by omega)
  have e2 := i32_sub (a := ayV s l) (b := zyV s l) (by omega) (by omega)
  have f1 := jAbs_i (x := axV s l - zxV s l) (by omega)
  have f2 := jAbs_i (x := ayV s l - zyV s l) (by omega)
  have f3 := i32_add (a := jAbs (axV s l - zxV s l)) (b := jAbs (ayV s l - zyV s l)) (by omega) (by omega)
  rw [l8]
  omega
theorem px_i (hN : JN s) (l : Nat) {p : Int32} (hp : 0 ≤ p.toInt) : ((axV s l).toInt ≤ (zxV s l).toInt ∧ (pxV s l p).toInt = (axV s l).toInt + min p.toInt (dxV s l).toInt) ∨ ((zxV s l).toInt < (axV s l).toInt ∧ (pxV s l p).toInt = (axV s l).toInt - min p.toInt (dxV s l).toInt) := by
  obtain ⟨⟨a1, a2⟩, ⟨b1, b2⟩, -⟩ := ends_v hN l
  have q := dx_i hN l
  have m := jMin_i (x := p) (y := dxV s l)
  unfold pxV
  by_cases h : axV s l ≤ zxV s l
  · rw [if_pos h, i32_add (by omega) (by omega), m]
    rw [Int32.le_iff_toInt_le] at h
    omega
  · rw [if_neg h, i32_sub (by omega) (by omega), m]
    rw [Int32.le_iff_toInt_le] at h
    omega
theorem py_i (hN : JN s) (l : Nat) {p : Int32} (hp : 0 ≤ p.toInt) (hp2 : p.toInt ≤ 1000) : ((ayV s l).toInt ≤ (zyV s l).toInt ∧ (pyV s l p).toInt = (ayV s l).toInt + max 0 (p.toInt - (dxV s l).toInt)) ∨ ((zyV s l).toInt < (ayV s l).toInt ∧ (pyV s l p).toInt = (ayV s l).toInt - max 0 (p.toInt - (dxV s l).toInt)) := by
  obtain ⟨⟨a1, a2⟩, ⟨b1, b2⟩, ⟨c1, c2⟩, ⟨d1, d2⟩⟩ := ends_v hN l
  have q := dx_i hN l
  have e := i32_sub (a := p) (b := dxV s l) (by omega) (by omega)
  have m := jMax_i (x := 0) (y := p - dxV s l)
  have e0 : (0 : Int32).toInt = 0 := rfl
  unfold pyV
  by_cases h : ayV s l ≤ zyV s l
  · rw [if_pos h, i32_add (by omega) (by omega), m]
    rw [Int32.le_iff_toInt_le] at h
    omega
  · rw [if_neg h, i32_sub (by omega) (by omega), m]
    rw [Int32.le_iff_toInt_le] at h
    omega
theorem dxC (hN : JN s) (hl : (l : Int) < (s 25 5).toInt) : ne_stepsAlongX s (nn l) = rI (dxV s l) s := by
  obtain ⟨k1, k2, k3⟩ := ends_b hN hl
  rw [ne_stepsAlongX_eq, nn_b k1 (by decide), nn_n (by omega), k2, k3, gd_t, gd_t, gd_t, gd_t]
  rfl
theorem pxC (hN : JN s) (hl : (l : Int) < (s 25 5).toInt) (p : Int32) : ne_placeX s (nn l) p = rI (pxV s l p) s := by
  obtain ⟨k1, k2, k3⟩ := ends_b hN hl
  rw [ne_placeX_eq, dxC hN hl, bI_rI, nn_b k1 (by decide), nn_n (by omega), k2, k3, gd_t, gd_t, gd_t, gd_t]
  show (if axV s l ≤ zxV s l then _ else _) = _
  unfold pxV
  split <;> rfl
theorem pyC (hN : JN s) (hl : (l : Int) < (s 25 5).toInt) (p : Int32) : ne_placeY s (nn l) p = rI (pyV s l p) s := by
  obtain ⟨k1, k2, k3⟩ := ends_b hN hl
  rw [ne_placeY_eq, dxC hN hl, bI_rI, nn_b k1 (by decide), nn_n (by omega), k2, k3, gd_t, gd_t, gd_t, gd_t]
  show (if ayV s l ≤ zyV s l then _ else _) = _
  unfold pyV
  split <;> rfl
theorem pxM (hN : JN s) (hl : (l : Int) < (s 25 5).toInt) {p : Int32} (hp : 0 ≤ p.toInt) : mo_xAt s (nn l) p = rI (pxV s l p) s := by
  obtain ⟨k1, k2, k3⟩ := ends_b hN hl
  obtain ⟨-, ⟨p1, p2, p3, p4, -⟩, -⟩ := id hN
  have key : mo_xAt s (nn l) p = mo_xAt_46 s (axV s l) (zxV s l) (jMin p (dxV s l)) := by
    rw [mo_xAt_eq, nn_b k1 (by decide), nn_n (by omega), p1, p3, p4, k2, k3, gd_t, gd_t, gd_t, gd_t, pl1, bI_rI]
    show (if dxV s l ≤ p then mo_xAt_46 s (axV s l) (zxV s l) (dxV s l) else mo_xAt_46 s (axV s l) (zxV s l) p) = _
    unfold jMin
    by_cases h : dxV s l ≤ p
    · rw [if_pos h]
      by_cases h2 : dxV s l < p
      · rw [if_pos h2]
      · rw [if_neg h2]
        have : dxV s l = p := by
          rw [Int32.le_iff_toInt_le] at h
          rw [Int32.lt_iff_toInt_lt] at h2
          exact Int32.toInt_inj.mp (by omega)
        rw [this]
    · rw [if_neg h, if_neg (fun q => h (by rw [Int32.le_iff_toInt_le]; rw [Int32.lt_iff_toInt_lt] at q; omega))]
  rw [key, mo_xAt_46_eq]
  have q := dx_i hN l
  have m := jMin_i (x := p) (y := dxV s l)
  have e0 : (0 : Int32).toInt = 0 := rfl
  unfold pxV
  by_cases h : zxV s l ≤ axV s l
  · rw [if_pos h]
    by_cases h2 : axV s l ≤ zxV s l
    · rw [if_pos h2]
      have : jMin p (dxV s l) = 0 := by
        rw [Int32.le_iff_toInt_le] at h h2
        exact Int32.toInt_inj.mp (by omega)
      rw [this, Int32.sub_zero, Int32.add_zero]
    · rw [if_neg h2]
  · rw [if_neg h, if_pos (by rw [Int32.le_iff_toInt_le] at h ⊢; omega)]
theorem pyM (hN : JN s) (hl : (l : Int) < (s 25 5).toInt) {p : Int32} (hp : 0 ≤ p.toInt) (hp2 : p.toInt ≤ (s 34 l).toInt) : mo_yAt s (nn l) p = rI (pyV s l p) s := by
  obtain ⟨k1, k2, k3⟩ := ends_b hN hl
  obtain ⟨-, ⟨p1, p2, p3, p4, -⟩, -⟩ := id hN
  have q := dx_i hN l
  obtain ⟨⟨a1, a2⟩, ⟨b1, b2⟩, ⟨c1, c2⟩, ⟨d1, d2⟩⟩ := ends_v hN l
  have w := len_i hN hl
  have e := i32_sub (a := p) (b := dxV s l) (by omega) (by omega)
  have m := jMax_i (x := 0) (y := p - dxV s l)
  have e0 : (0 : Int32).toInt = 0 := rfl
  have k52 : ∀ t, mo_yAt_52 s (nn l) (ayV s l) t = if zyV s l ≤ ayV s l then rI (ayV s l - t) s else rI (ayV s l + t) s := fun t => by
    rw [mo_yAt_52_eq, nn_b k1 (by decide), nn_n (by omega), p2, p4, k3, gd_t, gd_t]
    rfl
  have key : mo_yAt s (nn l) p = mo_yAt_52 s (nn l) (ayV s l) (jMax 0 (p - dxV s l)) := by
    rw [mo_yAt_eq, nn_b k1 (by decide), nn_n (by omega), p1, p3, p4, k2, k3, gd_t, gd_t, gd_t, gd_t, pl1, bI_rI, p3, k2, gd_t, gd_t]
    show (if p ≤ dxV s l then mo_yAt_52 s (nn l) (s 185 (s 28 l).toNatClampNeg) 0 else mo_yAt_52 s (nn l) (s 185 (s 28 l).toNatClampNeg) (p - dxV s l)) = _
    rw [p2]
    show (if p ≤ dxV s l then mo_yAt_52 s (nn l) (ayV s l) 0 else mo_yAt_52 s (nn l) (ayV s l) (p - dxV s l)) = _
    by_cases h : p ≤ dxV s l
    · rw [if_pos h]
      rw [Int32.le_iff_toInt_le] at h
      rw [show jMax 0 (p - dxV s l) = 0 from Int32.toInt_inj.mp (by omega)]
    · rw [if_neg h]
      rw [Int32.le_iff_toInt_le] at h
      rw [show jMax 0 (p - dxV s l) = p - dxV s l from Int32.toInt_inj.mp (by omega)]
  rw [key, k52]
  unfold pyV
  by_cases h : zyV s l ≤ ayV s l
  · rw [if_pos h]
    by_cases h2 : ayV s l ≤ zyV s l
    · rw [if_pos h2]
      have : jMax 0 (p - dxV s l) = 0 := by
        rw [Int32.le_iff_toInt_le] at h h2
        exact Int32.toInt_inj.mp (by omega)
      rw [this, Int32.sub_zero, Int32.add_zero]
    · rw [if_neg h2]
  · rw [if_neg h, if_pos (by rw [Int32.le_iff_toInt_le] at h ⊢; omega)]
theorem pxy_bd (hN : JN s) (hl : (l : Int) < (s 25 5).toInt) {p : Int32} (hp : 0 ≤ p.toInt) (hp2 : p.toInt ≤ (s 34 l).toInt) : bd (pxV s l p) 0 99 ∧ bd (pyV s l p) 0 99 := by
  obtain ⟨⟨a1, a2⟩, ⟨b1, b2⟩, ⟨c1, c2⟩, ⟨d1, d2⟩⟩ := ends_v hN l
  have q := dx_i hN l
  have w := len_i hN hl
  have v1 := px_i hN l hp
  have v2 := py_i hN l hp (by omega)
  exact ⟨⟨by omega, by omega⟩, ⟨by omega, by omega⟩⟩
end PLS
theorem px_eq {s s' : mSt} (h6 : s' 26 = s 26) (h8 : s' 28 = s 28) (h9 : s' 29 = s 29) (l : Nat) (p : Int32) : pxV s' l p = pxV s l p := by
  unfold pxV dxV axV zxV
  rw [h6, h8, h9]
theorem py_eq {s s' : mSt} (h6 : s' 26 = s 26) (h7 : s' 27 = s 27) (h8 : s' 28 = s 28) (h9 : s' 29 = s 29) (l : Nat) (p : Int32) : pyV s' l p = pyV s l p := by
  unfold pyV dxV ayV zyV axV zxV
  rw [h6, h7, h8, h9]
/-- the line of a break, as a small number -/
def lnB (s : mSt) (b : Nat) : Nat := (s 36 b).toInt.toNat
theorem lnB_ok {s : mSt} (hJ : J s) {b : Nat} (hb : b < nbr s) : s 36 b = nn (lnB s b) ∧ lnB s b < nln s ∧ lnB s b < 12 := by
  obtain ⟨-, -, ei⟩ := nbr_ok hJ
  obtain ⟨-, h12, ej⟩ := nln_ok hJ
  obtain ⟨⟨c1, -⟩, -⟩ := (J_Y hJ).2 b (by omega)
  have := c1.1
  have := c1.2
  refine ⟨nn_x c1.1, ?_, ?_⟩
  · show (s 36 b).toInt.toNat < nln s; omega
  · show (s 36 b).toInt.toNat < 12; omega
theorem c_echo : CS4 J LL_echo mo_echo := by
  intro s x e v m hJ
  have hB := J_B hJ
  have hN := J_N hJ
  obtain ⟨⟨eh, bh⟩, eb, bb⟩ := id hB
  obtain ⟨⟨q1, q2, q3, q4, q5⟩, hy⟩ := id (J_Y hJ)
  by_cases h1 : wb x 0 (s 35 2 - 1) = 0
  · exact ⟨-1, s, s, by rw [LL_echo_eq, hasB hB, bI_rI, if_pos h1], by rw [mo_echo_eq, moB hB, bI_rI, if_pos h1], hJ⟩
  by_cases h2 : wb e 0 1 = 0
  · exact ⟨-1, s, s, by rw [LL_echo_eq, hasB hB, bI_rI, if_neg h1, LLw, bI_rI, if_pos h2], by rw [mo_echo_eq, moB hB, bI_rI, if_neg h1, mw_0_1, bI_rI, if_pos h2], hJ⟩
  by_cases h3 : wb v 0 198 = 0
  · exact ⟨-1, s, s, by rw [LL_echo_eq, hasB hB, bI_rI, if_neg h1, LLw, bI_rI, if_neg h2, LLw, bI_rI, if_pos h3], by rw [mo_echo_eq, moB hB, bI_rI, if_neg h1, mw_0_1, bI_rI, if_neg h2, mw_0_198, bI_rI, if_pos h3], hJ⟩
  by_cases h4 : wb m 0 20 = 0
  · exact ⟨-1, s, s, by rw [LL_echo_eq, hasB hB, bI_rI, if_neg h1, LLw, bI_rI, if_neg h2, LLw, bI_rI, if_neg h3, LLw, bI_rI, if_pos h4], by rw [mo_echo_eq, moB hB, bI_rI, if_neg h1, mw_0_1, bI_rI, if_neg h2, mw_0_198, bI_rI, if_neg h3, mw_0_20, bI_rI, if_pos h4], hJ⟩
  obtain ⟨x1, x2⟩ := wb_lt bb (by decide) h1
  have b8 := bb.2
  have hx : inb x 8 = true := inb_of x1 (by omega)
  obtain ⟨b, hb⟩ : ∃ b, b = x.toNatClampNeg := ⟨_, rfl⟩
  have hbi : (b : Int) < (s 35 2).toInt := by rw [hb]; show ((x.toInt.toNat : Nat) : Int) < _; omega
  obtain ⟨⟨c1, c2⟩, ⟨c3, c4, c5⟩, c6⟩ := hy b hbi
  obtain ⟨l, el, -, -, -⟩ := nn_of c1
  have bl := (J_N hJ).1.2.1.2.2
  have c11 := c1.1
  have c12 := c1.2
  have hl12 : inb (s 36 b) 12 = true := inb_of c1.1 (by omega)
  obtain ⟨mid, hmid⟩ : ∃ mid : Int32, mid = if e = 0 then v else s 34 (s 36 b).toNatClampNeg - v := ⟨_, rfl⟩
  obtain ⟨lo, hlo⟩ : ∃ lo, lo = jMax (s 39 b) (mid - m) := ⟨_, rfl⟩
  obtain ⟨hi, hhi⟩ : ∃ hi, hi = jMin (s 40 b) (mid + m) := ⟨_, rfl⟩
  have cN : br_narrow s x e v m = if lo ≤ hi then rI ((hi - lo) + 1) (wr (wr s 39 b lo) 40 b hi) else rI (-2) s := by
    have : br_narrow s x e v m = br_narrow_24 s x m mid := by
      rw [br_narrow_eq, hmid, hx, ← hb, hl12, gd_t, gd_t]
      by_cases h : e = 0
      · rw [if_pos h, if_pos h]
      · rw [if_neg h, if_neg h]
    rw [this, br_narrow_24_eq, hx, ← hb, gd_t, gd_t, gd_t, gd_t, ← hlo, ← hhi]
  have cM : ∀ g : mSt, JN g → g 183 41 = s 35 2 → g 209 b = s 36 b → g 34 = s 34 → g 25 5 = s 25 5 → mo_echo g x e v m = mo_echo_95 g x (mid - m) (mid + m) := fun g gN g1 g2 g3 g4 => by
    have gB : mo_isBreak g x = rI (wb x 0 (s 35 2 - 1)) g := by rw [mo_isBreak_eq, mw0, bI_rI, bz_wb, gd_t, g1]
    rw [mo_echo_eq, gB, bI_rI, if_neg h1, mw_0_1, bI_rI, if_neg h2, mw_0_198, bI_rI, if_neg h3, mw_0_20, bI_rI, if_neg h4, hx, gd_t, ← hb, g2, lenM gN c1.1 (by rw [g4]; omega), bI_rI, g3, mo_echo_75_eq, mo_echo_75_eq, hmid]
    by_cases h : e = 0
    · rw [if_pos h, if_pos h, if_pos h]
    · rw [if_neg h, if_neg h, if_neg h]
  have hm4 : (-4 : Int32).toInt = -4 := rfl
  rcases c6 with ⟨d1, d2, d3, d4⟩ | ⟨d1, d2, d3, d4, d5⟩
  · have cH : br_isInHands s x = rI 0 s := by rw [br_isInHands_eq, hx, gd_t, ← hb, if_pos d3]
    by_cases h5 : lo ≤ hi
    · obtain ⟨g, hg⟩ : ∃ g, g = wr (wr s 39 b lo) 40 b hi := ⟨_, rfl⟩
      have gN : JN g := by rw [hg]; exact JN_fr (Fr_w rfl rfl (Fr_w rfl rfl Fr_rf)) hN
      refine ⟨(hi - lo) + 1, g, wr (wr g 212 b lo) 213 b hi, ?_, ?_, ?_⟩
      · rw [LL_echo_eq, hasB hB, bI_rI, if_neg h1, LLw, bI_rI, if_neg h2, LLw, bI_rI, if_neg h3, LLw, bI_rI, if_neg h4, cH, bI_rI, if_pos rfl, cN, if_pos h5, bI_rI, hg]
      · rw [cM g gN (by rw [hg]; exact eb) (by rw [hg]; show s 209 b = s 36 b; rw [q1]) (by rw [hg]; rfl) (by rw [hg]; rfl), ec95 hx, ← hb, show g 212 = s 39 by rw [hg]; exact q4, show g 213 = s 40 by rw [hg]; exact q5, show g 214 b = -4 by rw [hg]; exact d2, ← hlo, ← hhi, if_pos h5, if_pos rfl]
      · subst hg
        rw [Int32.le_iff_toInt_le] at h5
        have m1 := jMax_i (x := s 39 b) (y := mid - m)
        have m2 := jMin_i (x := s 40 b) (y := mid + m)
        rw [← hlo] at m1
        rw [← hhi] at m2
        refine J_butB (Fr_w rfl rfl (Fr_w rfl rfl (Fr_w rfl rfl (Fr_w rfl rfl Fr_rf)))) hJ hB ⟨⟨q1, q2, q3, ?_, ?_⟩, fun j hj => ?_⟩
        · show upd (s 212) _ _ = upd (s 39) _ _
          rw [q4]
        · show upd (s 213) _ _ = upd (s 40) _ _
          rw [q5]
        · obtain ⟨k1, ⟨k2, k3, k4⟩, k5⟩ := hy j hj
          refine ⟨k1, ?_, k5⟩
          show 0 ≤ (upd (s 39) b lo j).toInt ∧ (upd (s 39) b lo j).toInt ≤ (upd (s 40) b hi j).toInt ∧ (upd (s 40) b hi j).toInt ≤ (s 34 (s 36 j).toNatClampNeg).toInt
          by_cases ej : j = b
          · subst ej
            rw [upd_at, upd_at]
            omega
          · rw [upd_ne ej, upd_ne ej]
            exact ⟨k2, k3, k4⟩
    · refine ⟨-2, s, s, ?_, ?_, hJ⟩
      · rw [LL_echo_eq, hasB hB, bI_rI, if_neg h1, LLw, bI_rI, if_neg h2, LLw, bI_rI, if_neg h3, LLw, bI_rI, if_neg h4, cH, bI_rI, if_pos rfl, cN, if_neg h5, bI_rI]
      · rw [cM s hN eb (by rw [q1]) rfl rfl, ec95 hx, ← hb, q4, q5, ← hlo, ← hhi, if_neg h5]
  · have n1 : ¬ s 42 b = -1 := fun q => by rw [q] at d5; have h := d5.1; exact absurd h (by decide)
    have n4 : ¬ s 214 b = -4 := fun q => by rw [d1] at q; rw [q] at d2; have h := d2.1; exact absurd h (by decide)
    have cH : br_isInHands s x = rI 1 s := by rw [br_isInHands_eq, hx, gd_t, ← hb, if_neg n1]
    refine ⟨-2, s, s, ?_, ?_, hJ⟩
    · rw [LL_echo_eq, hasB hB, bI_rI, if_neg h1, LLw, bI_rI, if_neg h2, LLw, bI_rI, if_neg h3, LLw, bI_rI, if_neg h4, cH, bI_rI, if_neg (by decide)]
    · rw [cM s hN eb (by rw [q1]) rfl rfl, ec95 hx, ← hb, q4, q5, ← hlo, ← hhi]
      by_cases h5 : lo ≤ hi
      · rw [if_pos h5, if_neg n4]
      · rw [if_neg h5]
