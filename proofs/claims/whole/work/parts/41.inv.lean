/-! THE INVARIANT between the class's cells and the reference's, in groups; each group speaks of its own cells (of 183: of its own places) -/
def bd (x : Int32) (a b : Int) : Prop := a ≤ x.toInt ∧ x.toInt ≤ b
def Fr (l ks : List Nat) (s s' : mSt) : Prop := (∀ a, a ∈ l → s' a = s a) ∧ ∀ k, k ∈ ks → s' 183 k = s 183 k
section FRS
variable {l ks : List Nat} {s s1 : mSt} {c j k : Nat} {v : Int32}
theorem Fr_rf : Fr l ks s s := ⟨fun _ _ => rfl, fun _ _ => rfl⟩
theorem Fr_w (hc : l.contains c = false) (h3 : Nat.beq 183 c = false) (h : Fr l ks s s1) : Fr l ks s (wr s1 c j v) := by
  refine ⟨fun a ha => ?_, fun q hq => ?_⟩
  · rw [wr_ne]
    · exact h.1 a ha
    · intro e
      subst e
      have : l.contains a = true := by simpa using ha
      rw [this] at hc
      cases hc
  · rw [wr_ne]
    · exact h.2 q hq
    · intro e
      rw [← e] at h3
      cases h3
theorem Fr_m (hc : l.contains 183 = false) (hk : ks.contains k = false) (h : Fr l ks s s1) : Fr l ks s (wr s1 183 k v) := by
  refine ⟨fun a ha => ?_, fun q hq => ?_⟩
  · rw [wr_ne]
    · exact h.1 a ha
    · intro e
      subst e
      have : l.contains 183 = true := by simpa using ha
      rw [this] at hc
      cases hc
  · rw [wr_at]
    unfold upd
    rw [if_neg]
    · exact h.2 q hq
    · intro e
      subst e
      have : ks.contains q = true := by simpa using hq
      rw [this] at hk
      cases hk
end FRS
def wb (x a b : Int32) : Int32 := if x < a then 0 else if b < x then 0 else 1
theorem wb_01 {x a b : Int32} : wb x a b = 0 ∨ wb x a b = 1 := by
  unfold wb
  split
  · exact Or.inl rfl
  · split
    · exact Or.inl rfl
    · exact Or.inr rfl
theorem wb_n {x a b : Int32} (h : ¬ wb x a b = 0) : a.toInt ≤ x.toInt ∧ x.toInt ≤ b.toInt := by
  unfold wb at h
  split at h
  · exact absurd rfl h
  · split at h
    · exact absurd rfl h
    · next h1 h2 =>
      rw [Int32.lt_iff_toInt_lt] at h1 h2
      omega
theorem wb_y {x a b : Int32} (h : wb x a b = 0) : x.toInt < a.toInt ∨ b.toInt < x.toInt := by
  unfold wb at h
  split at h
  · next h1 => rw [Int32.lt_iff_toInt_lt] at h1; exact Or.inl h1
  · split at h
    · next h1 => rw [Int32.lt_iff_toInt_lt] at h1; exact Or.inr h1
    · exact absurd h (by decide)
theorem LLw (s : mSt) (x a b : Int32) : LL_isWithin s x a b = rI (wb x a b) s := by
  rw [LL_isWithin_eq]
  unfold wb
  split
  · rfl
  · split <;> rfl
theorem cmp_lt {x y : Int32} : (lg_cmp x.toInt64 y.toInt64 < 0) ↔ x < y := by
  have e1 := Int32.toInt_toInt64 x
  have e2 := Int32.toInt_toInt64 y
  rw [Int32.lt_iff_toInt_lt (x := x)]
  unfold lg_cmp
  by_cases h : y.toInt64 < x.toInt64
  · rw [if_pos h]
    rw [Int64.lt_iff_toInt_lt] at h
    exact ⟨fun q => absurd q (by decide), fun q => by omega⟩
  · rw [if_neg h]
    rw [Int64.lt_iff_toInt_lt] at h
    by_cases h2 : x.toInt64 = y.toInt64
    · rw [if_pos h2]
      rw [h2] at e1
      exact ⟨fun q => absurd q (by decide), fun q => by omega⟩
    · rw [if_neg h2]
      have : x.toInt64.toInt ≠ y.toInt64.toInt := fun q => h2 (Int64.toInt_inj.mp q)
      exact ⟨fun _ => by omega, fun _ => by decide⟩
theorem cmp_gt {x y : Int32} : ((0 : Int32) < lg_cmp x.toInt64 y.toInt64) ↔ y < x := by
  have e1 := Int32.toInt_toInt64 x
  have e2 := Int32.toInt_toInt64 y
  rw [Int32.lt_iff_toInt_lt (x := y)]
  unfold lg_cmp
  by_cases h : y.toInt64 < x.toInt64
  · rw [if_pos h]
    rw [Int64.lt_iff_toInt_lt] at h
    exact ⟨fun _ => by omega, fun _ => by decide⟩
  · rw [if_neg h]
    rw [Int64.lt_iff_toInt_lt] at h
    by_cases h2 : x.toInt64 = y.toInt64
    · rw [if_pos h2]
      exact ⟨fun q => absurd q (by decide), fun q => by omega⟩
    · rw [if_neg h2]
      exact ⟨fun q => absurd q (by decide), fun q => by omega⟩
theorem mow (s : mSt) (x a b : Int32) : mo_in s x.toInt64 a.toInt64 b.toInt64 = rI (wb x a b) s := by
  rw [mo_in_eq]
  unfold wb
  by_cases h1 : x < a
  · rw [if_pos (cmp_lt.mpr h1), if_pos h1]
  · rw [if_neg (fun q => h1 (cmp_lt.mp q)), if_neg h1]
    by_cases h2 : b < x
    · rw [if_pos (cmp_gt.mpr h2), if_pos h2]
    · rw [if_neg (fun q => h2 (cmp_gt.mp q)), if_neg h2]
theorem mowc (s : mSt) (x a b : Int32) {a' b' : Int64} (ha : a' = a.toInt64) (hb : b' = b.toInt64) : mo_in s x.toInt64 a' b' = rI (wb x a b) s := by rw [ha, hb]; exact mow s x a b
theorem hasLand (s : mSt) (x : Int32) : ne_hasLand s x = rI (if x < 0 then 0 else if s 25 2 ≤ x then 0 else 1) s := by
  rw [ne_hasLand_eq]
  split
  · rfl
  · split <;> rfl
theorem inb_rw {x : Int32} {n : Nat} : inb x n = true ↔ 0 ≤ x.toInt ∧ x.toInt < n := by
  constructor
  · intro h
    have := inb_in h
    unfold vp_in at this
    rw [not_or] at this
    obtain ⟨h1, h2⟩ := this
    rw [Int32.lt_iff_toInt_lt] at h1
    have e : (0 : Int32).toInt = 0 := rfl
    have h2 : ¬ n ≤ x.toInt.toNat := h2
    omega
  · exact fun h => inb_of h.1 h.2
theorem tn {x : Int32} : x.toNatClampNeg = x.toInt.toNat := rfl
/-- a counter that grows by one -/
theorem add1 {x : Int32} {n : Int} (h : bd x 0 n) (hn : n < 1000000) : (x + 1).toInt = x.toInt + 1 := by
  obtain ⟨h1, h2⟩ := h
  have e : (1 : Int32).toInt = 1 := rfl
  rw [i32_add (by omega) (by omega), e]
/-! the net: lands, lines, year -/
def len4 (s : mSt) (j : Nat) : Int32 := jAbs (s 26 (s 28 j).toNatClampNeg - s 26 (s 29 j).toNatClampNeg) + jAbs (s 27 (s 28 j).toNatClampNeg - s 27 (s 29 j).toNatClampNeg)
def lnOK (s : mSt) (j : Nat) : Prop := (bd (s 28 j) 0 ((s 25 2).toInt - 1) ∧ bd (s 29 j) 0 ((s 25 2).toInt - 1) ∧ s 28 j ≠ s 29 j) ∧ bd (s 30 j) 0 1 ∧ bd (s 31 j) 1 8 ∧ bd (s 32 j) 0 20 ∧ bd (s 33 j) 0 99 ∧ s 34 j = len4 s j
def JN (s : mSt) : Prop := ((s 183 0 = s 25 2 ∧ bd (s 25 2) 0 8) ∧ (s 183 3 = s 25 5 ∧ bd (s 25 5) 0 12) ∧ (s 183 10 = s 25 1 ∧ bd (s 25 1) 0 99)) ∧ (s 184 = s 26 ∧ s 185 = s 27 ∧ s 186 = s 28 ∧ s 187 = s 29 ∧ s 188 = s 30 ∧ s 189 = s 31 ∧ s 190 = s 32 ∧ s 191 = s 33) ∧ (∀ j : Nat, bd (s 26 j) 0 99 ∧ bd (s 27 j) 0 99) ∧ ∀ j : Nat, (j : Int) < (s 25 5).toInt → lnOK s j
def cN1 : List Nat := [25, 26, 27, 28, 29, 30, 31, 32, 33, 34, 184, 185, 186, 187, 188, 189, 190, 191]
def kN1 : List Nat := [0, 3, 10]
theorem JN_fr {s s' : mSt} (h : Fr cN1 kN1 s s') (hJ : JN s) : JN s' := by
  have g : ∀ a, cN1.contains a = true → s' a = s a := fun a ha => h.1 a (by simpa using ha)
  have k : ∀ a, kN1.contains a = true → s' 183 a = s 183 a := fun a ha => h.2 a (by simpa using ha)
  unfold JN lnOK len4
  rw [g 25 rfl, g 26 rfl, g 27 rfl, g 28 rfl, g 29 rfl, g 30 rfl, g 31 rfl, g 32 rfl, g 33 rfl, g 34 rfl, g 184 rfl, g 185 rfl, g 186 rfl, g 187 rfl, g 188 rfl, g 189 rfl, g 190 rfl, g 191 rfl, k 0 rfl, k 3 rfl, k 10 rfl]
  exact hJ
