/-! the cases quake, shared -/
def gapZ (a b v : Int) : Int := max 0 (max (min a b - v) (v - max a b))
theorem gap_up {a lo t x : Int} (h : lo ≤ t) : ∃ p, lo ≤ p ∧ p ≤ t ∧ max (a + p - x) (x - (a + p)) = gapZ (a + lo) (a + t) x := by
  refine ⟨max lo (min t (x - a)), by omega, by omega, ?_⟩
  unfold gapZ
  omega
theorem gap_dn {a lo t x : Int} (h : lo ≤ t) : ∃ p, lo ≤ p ∧ p ≤ t ∧ max (a - p - x) (x - (a - p)) = gapZ (a - lo) (a - t) x := by
  refine ⟨max lo (min t (a - x)), by omega, by omega, ?_⟩
  unfold gapZ
  omega
theorem gap_up_le {a lo t x p : Int} (h1 : lo ≤ p) (h2 : p ≤ t) : gapZ (a + lo) (a + t) x ≤ max (a + p - x) (x - (a + p)) := by
  unfold gapZ
  omega
theorem gap_dn_le {a lo t x p : Int} (h1 : lo ≤ p) (h2 : p ≤ t) : gapZ (a - lo) (a - t) x ≤ max (a - p - x) (x - (a - p)) := by
  unfold gapZ
  omega
theorem gap_pt {a x : Int} : gapZ a a x = max (a - x) (x - a) := by
  unfold gapZ
  omega
/-- a row whose steps go along one axis -/
def axZ (a k : Int) (u : Bool) (p : Int) : Int := if u = true then a + (p - k) else a - (p - k)
theorem ax_gap {a k lo t x : Int} {u : Bool} (h : lo ≤ t) : ∃ p, lo ≤ p ∧ p ≤ t ∧ max (axZ a k u p - x) (x - axZ a k u p) = gapZ (axZ a k u lo) (axZ a k u t) x := by
  cases u with
  | true =>
    obtain ⟨p, h1, h2, h3⟩ := gap_up (a := a - k) (x := x) h
    refine ⟨p, h1, h2, ?_⟩
    have e : ∀ q, axZ a k true q = a - k + q := fun q => by unfold axZ; rw [if_pos rfl]; omega
    rw [e, e, e]
    exact h3
  | false =>
    obtain ⟨p, h1, h2, h3⟩ := gap_dn (a := a + k) (x := x) h
    refine ⟨p, h1, h2, ?_⟩
    have e : ∀ q, axZ a k false q = a + k - q := fun q => by unfold axZ; rw [if_neg (by decide)]; omega
    rw [e, e, e]
    exact h3
theorem ax_gap_le {a k lo t x p : Int} {u : Bool} (h1 : lo ≤ p) (h2 : p ≤ t) : gapZ (axZ a k u lo) (axZ a k u t) x ≤ max (axZ a k u p - x) (x - axZ a k u p) := by
  cases u with
  | true =>
    have e : ∀ q, axZ a k true q = a - k + q := fun q => by unfold axZ; rw [if_pos rfl]; omega
    rw [e, e, e]
    exact gap_up_le h1 h2
  | false =>
    have e : ∀ q, axZ a k false q = a + k - q := fun q => by unfold axZ; rw [if_neg (by decide)]; omega
    rw [e, e, e]
    exact gap_dn_le h1 h2
section NEAR
variable {a c dx lo hi x y r : Int} {ux uy : Bool} {X Y : Int → Int}
def dsZ (X Y : Int → Int) (x y p : Int) : Int := max (X p - x) (x - X p) + max (Y p - y) (y - Y p)
def rwZ (X Y : Int → Int) (x y p q : Int) : Int := gapZ (X p) (X q) x + gapZ (Y p) (Y q) y
def ffZ (X Y : Int → Int) (dx lo hi x y : Int) : Int := if hi ≤ dx then (if dx < lo then 1000000 else rwZ X Y x y lo (min hi dx)) else min (if dx < lo then 1000000 else rwZ X Y x y lo (min hi dx)) (rwZ X Y x y (max lo dx) hi)
theorem near_iff (hX : ∀ p, X p = axZ a 0 ux (min p dx)) (hY : ∀ p, Y p = axZ c 0 uy (max 0 (p - dx))) (h1 : lo ≤ hi) (hr : r < 1000000) : ffZ X Y dx lo hi x y ≤ r ↔ ∃ p, lo ≤ p ∧ p ≤ hi ∧ dsZ X Y x y p ≤ r := by
  have hc : ∀ q, q ≤ dx → Y q = axZ c 0 uy 0 := fun q hq => by rw [hY q, show max 0 (q - dx) = 0 by omega]
  have hd : ∀ q, dx ≤ q → X q = axZ a 0 ux dx := fun q hq => by rw [hX q, show min q dx = dx by omega]
  have hx : ∀ q, q ≤ dx → X q = axZ a 0 ux q := fun q hq => by rw [hX q, show min q dx = q by omega]
  have hy : ∀ q, dx ≤ q → Y q = axZ c dx uy q := fun q hq => by
    rw [hY q, show max 0 (q - dx) = q - dx by omega]
    unfold axZ
    split <;> omega
  have r1 : lo ≤ dx → ∃ p, lo ≤ p ∧ p ≤ hi ∧ dsZ X Y x y p = rwZ X Y x y lo (min hi dx) := fun h => by
    obtain ⟨p, p1, p2, p3⟩ := ax_gap (a := a) (k := 0) (x := x) (u := ux) (lo := lo) (t := min hi dx) (by omega)
    refine ⟨p, p1, by omega, ?_⟩
    unfold dsZ rwZ
    rw [hx p (by omega), hx lo h, hx (min hi dx) (by omega), hc p (by omega), hc lo h, hc (min hi dx) (by omega), p3, gap_pt]
  have r2 : dx < hi → ∃ p, lo ≤ p ∧ p ≤ hi ∧ dsZ X Y x y p = rwZ X Y x y (max lo dx) hi := fun h => by
    obtain ⟨p, p1, p2, p3⟩ := ax_gap (a := c) (k := dx) (x := y) (u := uy) (lo := max lo dx) (t := hi) (by omega)
    refine ⟨p, by omega, by omega, ?_⟩
    unfold dsZ rwZ
    rw [hd p (by omega), hd (max lo dx) (by omega), hd hi (by omega), hy p (by omega), hy (max lo dx) (by omega), hy hi (by omega), p3, gap_pt]
  have l1 : ∀ p, lo ≤ p → p ≤ hi → p ≤ dx → rwZ X Y x y lo (min hi dx) ≤ dsZ X Y x y p := fun p p1 p2 p3 => by
    have q := ax_gap_le (a := a) (k := 0) (x := x) (u := ux) (lo := lo) (t := min hi dx) (p := p) p1 (by omega)
    unfold dsZ rwZ
    rw [hx p p3, hx lo (by omega), hx (min hi dx) (by omega), hc p p3, hc lo (by omega), hc (min hi dx) (by omega), gap_pt]
    omega
  have l2 : ∀ p, lo ≤ p → p ≤ hi → dx < p → rwZ X Y x y (max lo dx) hi ≤ dsZ X Y x y p := fun p p1 p2 p3 => by
    have q := ax_gap_le (a := c) (k := dx) (x := y) (u := uy) (lo := max lo dx) (t := hi) (p := p) (by omega) p2
    unfold dsZ rwZ
    rw [hd p (by omega), hd (max lo dx) (by omega), hd hi (by omega), hy p (by omega), hy (max lo dx) (by omega), hy hi (by omega), gap_pt]
    omega
  unfold ffZ
  generalize rwZ X Y x y lo (min hi dx) = R1 at *
  generalize rwZ X Y x y (max lo dx) hi = R2 at *
  constructor
  · intro h
    by_cases c1 : hi ≤ dx
    · rw [if_pos c1] at h
      rw [if_neg (by omega)] at h
      obtain ⟨p, p1, p2, p3⟩ := r1 (by omega)
      exact ⟨p, p1, p2, by omega⟩
    · rw [if_neg c1] at h
      by_cases c2 : dx < lo
      · rw [if_pos c2] at h
        obtain ⟨p, p1, p2, p3⟩ := r2 (by omega)
        exact ⟨p, p1, p2, by omega⟩
      · rw [if_neg c2] at h
        by_cases c3 : R1 ≤ r
        · obtain ⟨p, p1, p2, p3⟩ := r1 (by omega)
          exact ⟨p, p1, p2, by omega⟩
        · obtain ⟨p, p1, p2, p3⟩ := r2 (by omega)
          exact ⟨p, p1, p2, by omega⟩
  · rintro ⟨p, p1, p2, p3⟩
    by_cases c0 : p ≤ dx
    · have := l1 p p1 p2 c0
      rw [if_neg (show ¬ dx < lo by omega)]
      split <;> omega
    · have := l2 p p1 p2 (by omega)
      rw [if_neg (show ¬ hi ≤ dx by omega)]
      omega
end NEAR
/-! on the machine's numbers -/
def gapV (a b v : Int32) : Int32 := jMax 0 (jMax ((jMin a b) - v) (v - (jMax a b)))
theorem gap_i {a b v : Int32} (ha : bd a 0 99) (hb : bd b 0 99) (hv : bd v 0 99) : (gapV a b v).toInt = gapZ a.toInt b.toInt v.toInt ∧ 0 ≤ (gapV a b v).toInt ∧ (gapV a b v).toInt ≤ 99 := by
  obtain ⟨a1, a2⟩ := ha
  obtain ⟨b1, b2⟩ := hb
  obtain ⟨v1, v2⟩ := hv
  have m1 := jMin_i (x := a) (y := b)
  have m2 := jMax_i (x := a) (y := b)
  have e1 := i32_sub (a := jMin a b) (b := v) (by omega) (by omega)
  have e2 := i32_sub (a := v) (b := jMax a b) (by omega) (by omega)
  have m3 := jMax_i (x := jMin a b - v) (y := v - jMax a b)
  have m4 := jMax_i (x := 0) (y := jMax (jMin a b - v) (v - jMax a b))
  have e0 : (0 : Int32).toInt = 0 := rfl
  unfold gapV gapZ
  omega
def loN (s : mSt) (b : Nat) : Nat := (s 39 b).toInt.toNat
def hiN (s : mSt) (b : Nat) : Nat := (s 40 b).toInt.toNat
def dsV (s : mSt) (b p : Nat) (x y : Int32) : Int32 := jAbs (pxV s (lnB s b) (nn p) - x) + jAbs (pyV s (lnB s b) (nn p) - y)
def nrP (s : mSt) (b : Nat) (x y r : Int32) (p : Nat) : Bool := decide (loN s b ≤ p) && !decide (r < dsV s b p x y)
def nrB (s : mSt) (b : Nat) (x y r : Int32) : Bool := exB (nrP s b x y r) (hiN s b + 1)
section FFS
variable {s : mSt} {b : Nat}
theorem lohi (h : HB s b) : s 39 b = nn (loN s b) ∧ s 40 b = nn (hiN s b) ∧ loN s b ≤ hiN s b ∧ hiN s b ≤ 198 ∧ (hiN s b : Int) ≤ (s 34 (lnB s b)).toInt ∧ (s 39 b).toInt = (loN s b : Int) ∧ (s 40 b).toInt = (hiN s b : Int) := by
  obtain ⟨h1, h2, h3, h4, ⟨h5, h6, h7⟩, -⟩ := h
  have hl := (len_bd h2 h4).2
  refine ⟨nn_x h5, nn_x (by omega), ?_, ?_, ?_, ?_, ?_⟩
  · show (s 39 b).toInt.toNat ≤ (s 40 b).toInt.toNat; omega
  · show (s 40 b).toInt.toNat ≤ 198; omega
  · show (((s 40 b).toInt.toNat : Nat) : Int) ≤ _; omega
  · show _ = (((s 39 b).toInt.toNat : Nat) : Int); omega
  · show _ = (((s 40 b).toInt.toNat : Nat) : Int); omega
theorem ff_row (h : HB s b) {p q : Int32} (hp : bd p 0 (s 34 (lnB s b)).toInt) (hq : bd q 0 (s 34 (lnB s b)).toInt) {x y : Int32} (hx : bd x 0 99) (hy : bd y 0 99) : ∃ v, br_farFromRow s (nn (lnB s b)) p q x y = rI v s ∧ v.toInt = gapZ (pxV s (lnB s b) p).toInt (pxV s (lnB s b) q).toInt x.toInt + gapZ (pyV s (lnB s b) p).toInt (pyV s (lnB s b) q).toInt y.toInt := by
  obtain ⟨h1, h2, h3, h4, -⟩ := id h
  have k1 := pxy_bd h2 h4 hp.1 hp.2
  have k2 := pxy_bd h2 h4 hq.1 hq.2
  obtain ⟨g1, g2, g3⟩ := gap_i k1.1 k2.1 hx
  obtain ⟨g4, g5, g6⟩ := gap_i k1.2 k2.2 hy
  refine ⟨gapV (pxV s (lnB s b) p) (pxV s (lnB s b) q) x + gapV (pyV s (lnB s b) p) (pyV s (lnB s b) q) y, ?_, ?_⟩
  · rw [br_farFromRow_eq, pxC h2 h4, bI_rI, pxC h2 h4, bI_rI, br_gap_eq, bI_rI, pyC h2 h4, bI_rI, pyC h2 h4, bI_rI, br_gap_eq, bI_rI]
    rfl
  · rw [i32_add (by omega) (by omega), g1, g4]
theorem px_ax (hN : JN s) (l : Nat) : ∃ u, ∀ p : Int32, 0 ≤ p.toInt → (pxV s l p).toInt = axZ (axV s l).toInt 0 u (min p.toInt (dxV s l).toInt) := by
  by_cases h : (axV s l).toInt ≤ (zxV s l).toInt
  · refine ⟨true, fun p hp => ?_⟩
    have := px_i hN l hp
    unfold axZ
    rw [if_pos rfl]
    omega
  · refine ⟨false, fun p hp => ?_⟩
    have := px_i hN l hp
    unfold axZ
    rw [if_neg (by decide)]
    omega
theorem py_ax (hN : JN s) (l : Nat) : ∃ u, ∀ p : Int32, 0 ≤ p.toInt → p.toInt ≤ 1000 → (pyV s l p).toInt = axZ (ayV s l).toInt 0 u (max 0 (p.toInt - (dxV s l).toInt)) := by
  by_cases h : (ayV s l).toInt ≤ (zyV s l).toInt
  · refine ⟨true, fun p hp hp2 => ?_⟩
    have := py_i hN l hp hp2
    unfold axZ
    rw [if_pos rfl]
    omega
  · refine ⟨false, fun p hp hp2 => ?_⟩
    have := py_i hN l hp hp2
    unfold axZ
    rw [if_neg (by decide)]
    omega
theorem ds_i (h : HB s b) {p : Nat} (hp : p ≤ hiN s b) {x y : Int32} (hx : bd x 0 99) (hy : bd y 0 99) : (dsV s b p x y).toInt = max ((pxV s (lnB s b) (nn p)).toInt - x.toInt) (x.toInt - (pxV s (lnB s b) (nn p)).toInt) + max ((pyV s (lnB s b) (nn p)).toInt - y.toInt) (y.toInt - (pyV s (lnB s b) (nn p)).toInt) := by
  obtain ⟨-, -, e3, e4, e5, -⟩ := lohi h
  obtain ⟨h1, h2, h3, h4, -⟩ := id h
  have ip := nn_i (i := p) (by omega)
  obtain ⟨⟨k1, k2⟩, ⟨k3, k4⟩⟩ := pxy_bd h2 h4 (p := nn p) (by omega) (by omega)
  obtain ⟨x1, x2⟩ := hx
  obtain ⟨y1, y2⟩ := hy
  have f1 := i32_sub (a := pxV s (lnB s b) (nn p)) (b := x) (by omega) (by omega)
  have f2 := i32_sub (a := pyV s (lnB s b) (nn p)) (b := y) (by omega) (by omega)
  have g1 := jAbs_i (x := pxV s (lnB s b) (nn p) - x) (by omega)
  have g2 := jAbs_i (x := pyV s (lnB s b) (nn p) - y) (by omega)
  unfold dsV
  rw [i32_add (by omega) (by omega)]
  omega
theorem ffC (h : HB s b) {x y r : Int32} (hx : bd x 0 99) (hy : bd y 0 99) (hr : r.toInt < 1000000) : ∃ v, br_farFrom s (nn b) x y = rI v s ∧ (r < v ↔ nrB s b x y r = false) := by
  obtain ⟨elo, ehi, e3, e4, e5, e6, e7⟩ := lohi h
  obtain ⟨h1, h2, h3, h4, -⟩ := id h
  obtain ⟨⟨a1, a2⟩, ⟨b1, b2⟩, ⟨c1, c2⟩, ⟨d1, d2⟩⟩ := ends_v h2 (lnB s b)
  have hdx := dx_i h2 (lnB s b)
  have hlen := len_i h2 h4
  obtain ⟨ux, hX⟩ := px_ax h2 (lnB s b)
  obtain ⟨uy, hY⟩ := py_ax h2 (lnB s b)
  have em : (1000000 : Int32).toInt = 1000000 := rfl
  have m1 := jMin_i (x := s 40 b) (y := dxV s (lnB s b))
  have m2 := jMax_i (x := s 39 b) (y := dxV s (lnB s b))
  obtain ⟨XZ, hXZ⟩ : ∃ XZ : Int → Int, XZ = fun p => axZ (axV s (lnB s b)).toInt 0 ux (min p (dxV s (lnB s b)).toInt) := ⟨_, rfl⟩
  obtain ⟨YZ, hYZ⟩ : ∃ YZ : Int → Int, YZ = fun p => axZ (ayV s (lnB s b)).toInt 0 uy (max 0 (p - (dxV s (lnB s b)).toInt)) := ⟨_, rfl⟩
  have hX' : ∀ p : Int32, 0 ≤ p.toInt → (pxV s (lnB s b) p).toInt = XZ p.toInt := fun p hp => by rw [hXZ]; exact hX p hp
  have hY' : ∀ p : Int32, 0 ≤ p.toInt → p.toInt ≤ 1000 → (pyV s (lnB s b) p).toInt = YZ p.toInt := fun p hp hp2 => by rw [hYZ]; exact hY p hp hp2
  have key : ∃ v, br_farFrom s (nn b) x y = rI v s ∧ v.toInt = ffZ XZ YZ (dxV s (lnB s b)).toInt (loN s b) (hiN s b) x.toInt y.toInt := by
    have g61 : ∀ F : Int32, ∃ v, br_farFrom_61 s (nn b) x y (dxV s (lnB s b)) F = rI v s ∧ v.toInt = if (hiN s b : Int) ≤ (dxV s (lnB s b)).toInt then F.toInt else min F.toInt (rwZ XZ YZ x.toInt y.toInt (max (loN s b) (dxV s (lnB s b)).toInt) (hiN s b)) := fun F => by
      rw [br_farFrom_61_eq, nn_b h1 (by decide), gd_t, nn_n (by omega)]
      by_cases c : s 40 b ≤ dxV s (lnB s b)
      · rw [if_pos c]
        rw [Int32.le_iff_toInt_le] at c
        exact ⟨F, rfl, by rw [if_pos (by omega)]⟩
      · rw [if_neg c, gd_t, gd_t, gd_t, h3]
        rw [Int32.le_iff_toInt_le] at c
        obtain ⟨v, k1, k2⟩ := ff_row h (p := jMax (s 39 b) (dxV s (lnB s b))) (q := s 40 b) ⟨by omega, by omega⟩ ⟨by omega, by omega⟩ hx hy
        rw [k1, bI_rI]
        refine ⟨_, rfl, ?_⟩
        rw [if_neg (by omega), jMin_i, k2, hX' _ (by omega), hX' _ (by omega), hY' _ (by omega) (by omega), hY' _ (by omega) (by omega), m2, e6, e7]
        rfl
    rw [br_farFrom_eq, nn_b h1 (by decide), gd_t, nn_n (by omega), h3, dxC h2 h4, bI_rI, gd_t]
    unfold ffZ
    by_cases c : dxV s (lnB s b) < s 39 b
    · rw [if_pos c]
      rw [Int32.lt_iff_toInt_lt] at c
      obtain ⟨v, k1, k2⟩ := g61 1000000
      refine ⟨v, k1, ?_⟩
      rw [k2, if_pos (show (dxV s (lnB s b)).toInt < (loN s b : Int) by omega), em]
    · rw [if_neg c, gd_t, gd_t, gd_t, h3]
      rw [Int32.lt_iff_toInt_lt] at c
      obtain ⟨w, k1, k2⟩ := ff_row h (p := s 39 b) (q := jMin (s 40 b) (dxV s (lnB s b))) ⟨by omega, by omega⟩ ⟨by omega, by omega⟩ hx hy
      rw [k1, bI_rI]
      obtain ⟨v, k3, k4⟩ := g61 w
      refine ⟨v, k3, ?_⟩
      have : w.toInt = rwZ XZ YZ x.toInt y.toInt (loN s b) (min (hiN s b) (dxV s (lnB s b)).toInt) := by
        rw [k2, hX' _ (by omega), hX' _ (by omega), hY' _ (by omega) (by omega), hY' _ (by omega) (by omega), m1, e6, e7]
        rfl
      rw [k4, if_neg (show ¬ (dxV s (lnB s b)).toInt < (loN s b : Int) by omega), this]
  obtain ⟨v, k1, k2⟩ := key
  refine ⟨v, k1, ?_⟩
  have ni := near_iff (a := (axV s (lnB s b)).toInt) (c := (ayV s (lnB s b)).toInt) (dx := (dxV s (lnB s b)).toInt) (lo := loN s b) (hi := hiN s b) (x := x.toInt) (y := y.toInt) (r := r.toInt) (ux := ux) (uy := uy) (X := XZ) (Y := YZ) (fun p => by rw [hXZ]) (fun p => by rw [hYZ]) (by omega) hr
  rw [← k2] at ni
  have dZ : ∀ p : Nat, p ≤ hiN s b → (dsV s b p x y).toInt = dsZ XZ YZ x.toInt y.toInt p := fun p hp => by
    have ip := nn_i (i := p) (by omega)
    rw [ds_i h hp hx hy, hX' _ (by omega), hY' _ (by omega) (by omega), ip]
    rfl
  constructor
  · intro hv
    rw [Int32.lt_iff_toInt_lt] at hv
    refine exB_f (fun p hp => ?_)
    unfold nrP
    cases e : (decide (loN s b ≤ p) && !decide (r < dsV s b p x y)) with
    | false => rfl
    | true =>
      rw [Bool.and_eq_true, decide_eq_true_iff, Bool.not_eq_true', decide_eq_false_iff_not, Int32.lt_iff_toInt_lt, dZ p (by omega)] at e
      have := ni.mpr ⟨p, by omega, by omega, by omega⟩
      omega
  · intro hn
    rw [Int32.lt_iff_toInt_lt]
    by_cases c : r.toInt < v.toInt
    · exact c
    · obtain ⟨p, p1, p2, p3⟩ := ni.mp (by omega)
      have ht : nrB s b x y r = true := by
        refine exB_iff.mpr ⟨p.toNat, by omega, ?_⟩
        unfold nrP
        rw [Bool.and_eq_true, decide_eq_true_iff, Bool.not_eq_true', decide_eq_false_iff_not, Int32.lt_iff_toInt_lt, dZ p.toNat (by omega), Int.toNat_of_nonneg (by omega)]
        omega
      rw [ht] at hn
      cases hn
end FFS
