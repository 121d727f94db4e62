/-! the best parting: the class -/
def mkV (t : mSt) (c j : Nat) : Nat := mkF (dgN (nsh t) (jnN t) c) j (jnN t)
def okB (t : mSt) (c : Nat) : Bool := !exB (fun j => !fsB t j (mkV t c j)) (nsh t)
def ptV (U : Nat → Nat → Int32) (t : mSt) (c : Nat) : Nat → Int32
  | 0 => 0
  | j + 1 => ptV U t c j + U j (mkV t c j)
def bsO (U : Nat → Nat → Int32) (t : mSt) : Nat → Option Nat
  | 0 => none
  | c + 1 => match bsO U t c with
    | none => if okB t c = true then some c else none
    | some b => if okB t c = true ∧ ptV U t c (nsh t) < ptV U t b (nsh t) then some c else some b
def bsV (U : Nat → Nat → Int32) (t : mSt) : Option Nat → Int32
  | none => 2147483647
  | some b => ptV U t b (nsh t)
section BST
variable {t s s0 : mSt} {U : Nat → Nat → Int32}
theorem ok_iff {c : Nat} : okB t c = true ↔ ∀ j, j < nsh t → fsB t j (mkV t c j) = true := by
  unfold okB
  constructor
  · intro h j hj
    cases e : fsB t j (mkV t c j) with
    | true => rfl
    | false =>
      have : exB (fun j => !fsB t j (mkV t c j)) (nsh t) = true := exB_iff.mpr ⟨j, hj, by rw [e]; rfl⟩
      rw [this] at h; cases h
  · intro h
    cases e : exB (fun j => !fsB t j (mkV t c j)) (nsh t) with
    | false => rfl
    | true =>
      obtain ⟨j, j1, j2⟩ := exB_iff.mp e
      rw [h j j1] at j2; cases j2
theorem mkV_lt (t : mSt) (c j : Nat) : mkV t c j < 2 ^ jnN t := mk_lt _ _ _
theorem pt_bd (hJ : J t) (hU : ∀ j D, j < nsh t → D < 2 ^ jnN t → coP t j D (U j D)) {c : Nat} (hf : okB t c = true) : ∀ k, k ≤ nsh t → -(100000000 * (k : Int)) ≤ (ptV U t c k).toInt ∧ (ptV U t c k).toInt ≤ 100000000 * k := by
  obtain ⟨-, h3, -⟩ := nsh_ok hJ
  intro k
  induction k with
  | zero =>
    intro _
    have e : (ptV U t c 0).toInt = 0 := rfl
    rw [e]; omega
  | succ k ih =>
    intro hk
    have := ih (by omega)
    have hc := ((hU k (mkV t c k) (by omega) (mkV_lt _ _ _)).2 (ok_iff.mp hf k (by omega))).2.2
    show _ ≤ (ptV U t c k + U k (mkV t c k)).toInt ∧ (ptV U t c k + U k (mkV t c k)).toInt ≤ _
    rw [i32_add (by omega) (by omega)]
    omega
theorem bs_ok {a b : Nat} (h : bsO U t a = some b) : b < a ∧ okB t b = true := by
  induction a with
  | zero => cases h
  | succ a ih =>
    have e : bsO U t (a + 1) = match bsO U t a with | none => if okB t a = true then some a else none | some b => if okB t a = true ∧ ptV U t a (nsh t) < ptV U t b (nsh t) then some a else some b := rfl
    rw [e] at h
    cases q : bsO U t a with
    | none =>
      rw [q] at h
      dsimp only at h
      by_cases k : okB t a = true
      · rw [if_pos k] at h
        cases h
        exact ⟨by omega, k⟩
      · rw [if_neg k] at h; cases h
    | some x =>
      rw [q] at h
      dsimp only at h
      by_cases k : okB t a = true ∧ ptV U t a (nsh t) < ptV U t x (nsh t)
      · rw [if_pos k] at h
        cases h
        exact ⟨by omega, k.1⟩
      · rw [if_neg k] at h
        have hx : x = b := by cases h; rfl
        have := ih (by rw [q, hx])
        exact ⟨by omega, this.2⟩
theorem partC (hJ : J t) (h7 : jnN t ≤ 7) (hU : ∀ j D, j < nsh t → D < 2 ^ jnN t → coP t j D (U j D)) (hK : K t s) {c : Nat} (hs : ∀ j, j < nsh t → s 160 j = nn (mkV t c j)) (hT : ∀ j D, j < nsh t → D < 2 ^ jnN t → s (156 + j) D = U j D) : me_costOfParting s = rI (if okB t c = true then ptV U t c (nsh t) else 2147483647) s := by
  obtain ⟨en, h3, -⟩ := nsh_ok hJ
  have hR7 : 2 ^ jnN t ≤ 2 ^ 7 := Nat.pow_le_pow_right (by omega) h7
  have em : (2147483647 : Int32).toInt = 2147483647 := rfl
  have key := loopE (σ := Int32) (fun x j => me_costOfParting_4 s x (nn j)) (nsh t) (fun j x => x = ptV U t c j ∧ ∀ i, i < j → fsB t i (mkV t c i) = true) (fun o => o = rI 2147483647 s ∧ okB t c = false) (i0 := 0) (s0 := 0) (fun j x hj hI => by
    show (∃ x', me_costOfParting_4 s x (nn j) = me_costOfParting_4 s x' (nn (j + 1)) ∧ _) ∨ (me_costOfParting_4 s x (nn j) = rI 2147483647 s ∧ _)
    obtain ⟨i1, i2⟩ := hI
    have hl := mkV_lt t c j
    have hc := hU j (mkV t c j) hj hl
    rw [me_costOfParting_4_eq s x (nn j), K_at hK 129 rfl, en, if_neg (nle hj (by omega)), nn_b (i := j) (n := 3) (by omega) (by decide), nn_n (by omega), blt_t (show j < 3 by omega), hs j hj, nn_b (i := mkV t c j) (n := 128) (by omega) (by decide), nn_n (by omega), hT j _ hj hl, nn_s]
    simp only [gd_t]
    cases f : fsB t j (mkV t c j) with
    | false =>
      right
      rw [if_pos (hc.1 f)]
      refine ⟨rfl, ?_⟩
      unfold okB
      have : exB (fun j => !fsB t j (mkV t c j)) (nsh t) = true := exB_iff.mpr ⟨j, hj, by rw [f]; rfl⟩
      rw [this]; rfl
    | true =>
      left
      have hb := (hc.2 f).2.2
      rw [if_neg (fun w => by rw [w] at hb; omega)]
      refine ⟨x + U j (mkV t c j), rfl, by rw [i1]; rfl, fun i hi => ?_⟩
      by_cases e : i = j
      · rw [e]; exact f
      · exact i2 i (by omega)) (Nat.zero_le _) ⟨rfl, fun i hi => by omega⟩
  rw [me_costOfParting_eq]
  rcases key with ⟨x, f1, f2, f3⟩ | ⟨f1, f2⟩
  · have f1 : me_costOfParting_4 s 0 0 = me_costOfParting_4 s x (nn (nsh t)) := f1
    rw [f1, me_costOfParting_4_eq, K_at hK 129 rfl, en, if_pos (yle (Nat.le_refl _) (by omega)), if_pos (ok_iff.mpr f3), f2]
  · have f1 : me_costOfParting_4 s 0 0 = rI 2147483647 s := f1
    rw [f1, f2, if_neg (by decide)]
def CI (U : Nat → Nat → Int32) (t s0 : mSt) (a c : Nat) (s : mSt) : Prop := Ch [135, 159, 160, 161] [] s0 s ∧ s 135 3 = nn (jnN t) ∧ (∀ k, k < jnN t → s 159 k = nn (dgN (nsh t) (jnN t) c k)) ∧ (∀ j, j < 3 → s 160 j = nn (mkV t c j)) ∧ s 135 13 = bsV U t (bsO U t a) ∧ ∀ b, bsO U t a = some b → ∀ k, k < jnN t → s 161 k = nn (dgN (nsh t) (jnN t) b k)
theorem oneC (hJ : J t) (h7 : jnN t ≤ 7) (hU : ∀ j D, j < nsh t → D < 2 ^ jnN t → coP t j D (s0 (156 + j) D)) (hK : K t s0) {c : Nat} (hc : c < 2187) (hI : CI (fun j D => s0 (156 + j) D) t s0 c c s) : ∃ s', me_findBest_81 s 1 (nn c) = me_findBest_127 s' (nn c) ∧ CI (fun j D => s0 (156 + j) D) t s0 (c + 1) c s' := by
  obtain ⟨en, h3, -⟩ := nsh_ok hJ
  obtain ⟨c1, c2, c3, c4, c5, c6⟩ := hI
  have hK1 : K t s := K_ch c1 rfl rfl hK
  have em : (2147483647 : Int32).toInt = 2147483647 := rfl
  have hT : ∀ j D, j < nsh t → D < 2 ^ jnN t → s (156 + j) D = s0 (156 + j) D := fun j D hj _ => by
    have : ∀ j < 3, [135, 159, 160, 161].contains (156 + j) = false ∧ Nat.beq (156 + j) 183 = false := by decide
    have := this j (by omega)
    rw [c1.1 _ this.1 this.2]
  have hp := partC (U := fun j D => s0 (156 + j) D) hJ h7 hU hK1 (c := c) (fun j hj => c4 j (by omega)) hT
  have h87 : ¬ (2187 : Int32) ≤ nn c := nle (i := 2187) hc (by decide)
  have eN : bsO (fun j D => s0 (156 + j) D) t (c + 1) = match bsO (fun j D => s0 (156 + j) D) t c with | none => if okB t c = true then some c else none | some b => if okB t c = true ∧ ptV (fun j D => s0 (156 + j) D) t c (nsh t) < ptV (fun j D => s0 (156 + j) D) t b (nsh t) then some c else some b := rfl
  rw [me_findBest_81_eq s 1 (nn c), if_neg (show ¬ (1 : Int32) = 0 by decide), if_neg h87, hp, bI_rI, c5]
  -- what happens in each case
  have stay : bsO (fun j D => s0 (156 + j) D) t (c + 1) = bsO (fun j D => s0 (156 + j) D) t c → CI (fun j D => s0 (156 + j) D) t s0 (c + 1) c s := fun e => ⟨c1, c2, c3, c4, by rw [e]; exact c5, fun b hb => c6 b (by rw [← e]; exact hb)⟩
  have go : okB t c = true → bsO (fun j D => s0 (156 + j) D) t (c + 1) = some c → ∃ s', gd (cpOK 0 0 (s 135 3) 7 7) (me_findBest_127 (cpw (wr s 135 13 (ptV (fun j D => s0 (156 + j) D) t c (nsh t))) 161 ((wr s 135 13 (ptV (fun j D => s0 (156 + j) D) t c (nsh t))) 159) 0 0 (s 135 3).toNatClampNeg) (nn c)) = me_findBest_127 s' (nn c) ∧ CI (fun j D => s0 (156 + j) D) t s0 (c + 1) c s' := fun hok e => by
    have hcp : ∀ n : Fin 8, cpOK 0 0 (nn n.val) 7 7 = true := by decide
    rw [c2, nn_n (by omega), hcp ⟨jnN t, by omega⟩, gd_t]
    generalize hv : ptV (fun j D => s0 (156 + j) D) t c (nsh t) = v
    refine ⟨cpw (wr s 135 13 v) 161 (wr s 135 13 v 159) 0 0 (jnN t), rfl, ?_⟩
    have h161 : ∀ x, x ≠ 161 → cpw (wr s 135 13 v) 161 (wr s 135 13 v 159) 0 0 (jnN t) x = wr s 135 13 v x := fun x hx => if_neg hx
    have cw : Ch [135, 159, 160, 161] [] s0 (wr s 135 13 v) := Ch_w rfl rfl c1
    refine ⟨⟨fun x hx hy => ?_, fun k hk => ?_⟩, ?_, ?_, ?_, ?_, ?_⟩
    · rw [h161 x (fun z => by rw [z] at hx; cases hx)]; exact cw.1 x hx hy
    · rw [h161 183 (by decide)]; exact cw.2 k hk
    · rw [h161 135 (by decide), wr_at, upd_ne (by decide)]; exact c2
    · intro k hk
      rw [h161 159 (by decide), wr_ne _ _ _ (by decide)]; exact c3 k hk
    · intro j hj
      rw [h161 160 (by decide), wr_ne _ _ _ (by decide)]; exact c4 j hj
    · rw [h161 135 (by decide), wr_at, upd_at, e]
      exact hv.symm
    · intro b hb k hk
      rw [e] at hb
      cases hb
      show va_cpy _ _ 0 0 (jnN t) k = _
      unfold va_cpy
      rw [if_pos (by omega), wr_ne _ _ _ (by decide)]
      rw [show 0 + (k - 0) = k by omega]
      exact c3 k hk
  by_cases hok : okB t c = true
  · have hb := pt_bd (U := fun j D => s0 (156 + j) D) hJ hU hok (nsh t) (Nat.le_refl _)
    rw [if_pos hok]
    cases q : bsO (fun j D => s0 (156 + j) D) t c with
    | none =>
      rw [q] at eN
      dsimp only at eN
      rw [if_pos hok] at eN
      rw [if_neg (show ¬ bsV (fun j D => s0 (156 + j) D) t none ≤ _ from fun w => by
        rw [Int32.le_iff_toInt_le] at w
        have w : (2147483647 : Int32).toInt ≤ _ := w
        omega)]
      exact go hok eN
    | some b =>
      rw [q] at eN
      dsimp only at eN
      by_cases l : ptV (fun j D => s0 (156 + j) D) t c (nsh t) < ptV (fun j D => s0 (156 + j) D) t b (nsh t)
      · rw [if_pos ⟨hok, l⟩] at eN
        rw [if_neg (show ¬ bsV (fun j D => s0 (156 + j) D) t (some b) ≤ _ from Int32.not_le.mpr l)]
        exact go hok eN
      · rw [if_neg (fun z => l z.2), ← q] at eN
        rw [if_pos (show bsV (fun j D => s0 (156 + j) D) t (some b) ≤ _ from Int32.not_lt.mp l)]
        exact ⟨s, rfl, stay eN⟩
  · rw [if_neg hok]
    have e : bsO (fun j D => s0 (156 + j) D) t (c + 1) = bsO (fun j D => s0 (156 + j) D) t c := by
      rw [eN]
      cases bsO (fun j D => s0 (156 + j) D) t c with
      | none => dsimp only; rw [if_neg hok]
      | some b => dsimp only; rw [if_neg (fun z => hok z.1)]
    rw [if_pos (show bsV (fun j D => s0 (156 + j) D) t _ ≤ 2147483647 by
      rw [Int32.le_iff_toInt_le]
      have := Int32.toInt_lt (bsV (fun j D => s0 (156 + j) D) t (bsO (fun j D => s0 (156 + j) D) t c))
      rw [em]
      omega)]
    exact ⟨s, rfl, stay e⟩
end BST
