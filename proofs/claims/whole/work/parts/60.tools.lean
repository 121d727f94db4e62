/-! TOOLS: small numbers, loops, states near another -/
def nn (i : Nat) : Int32 := Int32.ofNat i
theorem nn_i {i : Nat} (h : i < 2147483648) : (nn i).toInt = i := Int32.toInt_ofNat_of_lt h
theorem nn_n {i : Nat} (h : i < 2147483648) : (nn i).toNatClampNeg = i := Int32.toNatClampNeg_ofNat_of_lt h
theorem nn_b {i n : Nat} (h : i < n) (hn : n ≤ 2147483648) : inb (nn i) n = true := inb_of (by rw [nn_i (by omega)]; omega) (by rw [nn_i (by omega)]; omega)
theorem nn_s (i : Nat) : nn i + 1 = nn (i + 1) := (Int32.ofNat_add i 1).symm
theorem nn_a (i j : Nat) : nn i + nn j = nn (i + j) := (Int32.ofNat_add i j).symm
theorem nn_m (i j : Nat) : nn i * nn j = nn (i * j) := (Int32.ofNat_mul i j).symm
theorem nn_d {i j : Nat} (h : j ≤ i) : nn i - nn j = nn (i - j) := (Int32.ofNat_sub i j h).symm
theorem nn_le {i j : Nat} (hi : i < 2147483648) (hj : j < 2147483648) : nn i ≤ nn j ↔ i ≤ j := by
  rw [Int32.le_iff_toInt_le, nn_i hi, nn_i hj]; omega
theorem nn_lt {i j : Nat} (hi : i < 2147483648) (hj : j < 2147483648) : nn i < nn j ↔ i < j := by
  rw [Int32.lt_iff_toInt_lt, nn_i hi, nn_i hj]; omega
theorem nn_eq {i j : Nat} (hi : i < 2147483648) (hj : j < 2147483648) : nn i = nn j ↔ i = j := by
  rw [← Int32.toInt_inj, nn_i hi, nn_i hj]; omega
theorem nn_x {x : Int32} (h : 0 ≤ x.toInt) : x = nn x.toNatClampNeg := (Int32.ofNat_toNatClampNeg x (by rw [Int32.le_iff_toInt_le]; exact h)).symm
theorem nn_of {x : Int32} {b : Int} (h : bd x 0 b) : ∃ i : Nat, x = nn i ∧ (i : Int) ≤ b ∧ i < 2147483648 ∧ x.toInt = i := by
  have e : ((x.toInt.toNat : Nat) : Int) = x.toInt := Int.toNat_of_nonneg h.1
  have q := Int32.toInt_lt x
  have h2 := h.2
  exact ⟨x.toInt.toNat, nn_x h.1, by omega, by omega, by omega⟩
theorem nn_bd {i : Nat} {b : Int} (h : (i : Int) ≤ b) (h2 : i < 2147483648) : bd (nn i) 0 b := ⟨by rw [nn_i h2]; omega, by rw [nn_i h2]; omega⟩
theorem nle {i j : Nat} (h : j < i) (hi : i < 2147483648) : ¬ nn i ≤ nn j := by rw [nn_le hi (by omega)]; omega
theorem yle {i j : Nat} (h : i ≤ j) (hj : j < 2147483648) : nn i ≤ nn j := by rw [nn_le (by omega) hj]; omega
theorem nlt {i j : Nat} (h : j ≤ i) (hi : i < 2147483648) : ¬ nn i < nn j := by rw [nn_lt hi (by omega)]; omega
theorem ylt {i j : Nat} (h : i < j) (hj : j < 2147483648) : nn i < nn j := by rw [nn_lt (by omega) hj]; omega
theorem blt_t {i n : Nat} (h : i < n) : Nat.blt i n = true := Nat.ble_eq_true_of_le h
/-! loops: each step is a tail call -/
theorem loopS {σ : Type} (f : σ → Nat → mO) (n : Nat) (I : Nat → σ → Prop) (step : ∀ i s, i < n → I i s → ∃ s', f s i = f s' (i + 1) ∧ I (i + 1) s') {i0 : Nat} {s0 : σ} (h : i0 ≤ n) (h0 : I i0 s0) : ∃ s', f s0 i0 = f s' n ∧ I n s' := by
  obtain ⟨k, hk⟩ : ∃ k, n = i0 + k := ⟨n - i0, by omega⟩
  induction k generalizing i0 s0 with
  | zero =>
    have e : n = i0 := by omega
    rw [e]
    exact ⟨s0, rfl, h0⟩
  | succ k ih =>
    obtain ⟨s1, e1, h1⟩ := step i0 s0 (by omega) h0
    obtain ⟨s2, e2, h2⟩ := ih (i0 := i0 + 1) (s0 := s1) (by omega) h1 (by omega)
    exact ⟨s2, e1.trans e2, h2⟩
theorem loopE {σ : Type} (f : σ → Nat → mO) (n : Nat) (I : Nat → σ → Prop) (E : mO → Prop) (step : ∀ i s, i < n → I i s → (∃ s', f s i = f s' (i + 1) ∧ I (i + 1) s') ∨ E (f s i)) {i0 : Nat} {s0 : σ} (h : i0 ≤ n) (h0 : I i0 s0) : (∃ s', f s0 i0 = f s' n ∧ I n s') ∨ E (f s0 i0) := by
  obtain ⟨k, hk⟩ : ∃ k, n = i0 + k := ⟨n - i0, by omega⟩
  induction k generalizing i0 s0 with
  | zero =>
    have e : n = i0 := by omega
    rw [e]
    exact Or.inl ⟨s0, rfl, h0⟩
  | succ k ih =>
    rcases step i0 s0 (by omega) h0 with ⟨s1, e1, h1⟩ | hE
    · rw [e1]
      exact ih (i0 := i0 + 1) (s0 := s1) (by omega) h1 (by omega)
    · exact Or.inr hE
/-! what changed -/
def Ch (l ks : List Nat) (s s' : mSt) : Prop := (∀ a, l.contains a = false → Nat.beq a 183 = false → s' a = s a) ∧ ∀ k, ks.contains k = false → s' 183 k = s 183 k
section CHS
variable {l ks l' ks' : List Nat} {s s1 s2 t : mSt} {c j k : Nat} {v : Int32}
theorem Ch_rf : Ch l ks s s := ⟨fun _ _ _ => rfl, fun _ _ => rfl⟩
theorem Ch_tr (h : Ch l ks s s1) (h' : Ch l ks s1 s2) : Ch l ks s s2 := ⟨fun a ha hb => (h'.1 a ha hb).trans (h.1 a ha hb), fun k hk => (h'.2 k hk).trans (h.2 k hk)⟩
theorem Ch_w (hc : l.contains c = true) (h3 : Nat.beq 183 c = false) (h : Ch l ks s s1) : Ch l ks s (wr s1 c j v) := by
  refine ⟨fun a ha hb => ?_, fun q hq => ?_⟩
  · rw [wr_ne _ _ _ (fun e => by rw [e, hc] at ha; cases ha)]
    exact h.1 a ha hb
  · rw [wr_ne _ _ _ (fun e => by rw [← e] at h3; cases h3)]
    exact h.2 q hq
theorem Ch_m (hk : ks.contains k = true) (h : Ch l ks s s1) : Ch l ks s (wr s1 183 k v) := by
  refine ⟨fun a ha hb => ?_, fun q hq => ?_⟩
  · rw [wr_ne _ _ _ (fun e => by rw [e] at hb; cases hb)]
    exact h.1 a ha hb
  · rw [wr_at, upd_ne (fun e => by rw [e, hk] at hq; cases hq)]
    exact h.2 q hq
theorem Ch_sub (h : Ch l ks s s1) (h1 : l.all (fun a => l'.contains a) = true) (h2 : ks.all (fun a => ks'.contains a) = true) : Ch l' ks' s s1 := by
  rw [List.all_eq_true] at h1 h2
  refine ⟨fun a ha hb => h.1 a ?_ hb, fun q hq => h.2 q ?_⟩
  · cases e : l.contains a with
    | false => rfl
    | true =>
      have := h1 a (by simpa using e)
      rw [this] at ha
      cases ha
  · cases e : ks.contains q with
    | false => rfl
    | true =>
      have := h2 q (by simpa using e)
      rw [this] at hq
      cases hq
def K (t s : mSt) : Prop := Fr u0 v0 t s
theorem K_rf : K s s := Fr_rf
theorem K_at (h : K t s) (a : Nat) (ha : u0.contains a = true) : s a = t a := h.1 a (by simpa using ha)
theorem K_m (h : K t s) (k : Nat) (hk : v0.contains k = true) : s 183 k = t 183 k := h.2 k (by simpa using hk)
theorem K_ch (h : Ch l ks s s1) (h1 : l.all (fun a => !u0.contains a) = true) (h2 : ks.all (fun a => !v0.contains a) = true) (hK : K t s) : K t s1 := by
  rw [List.all_eq_true] at h1 h2
  refine ⟨fun a ha => ?_, fun q hq => ?_⟩
  · have e1 : u0.contains a = true := by simpa using ha
    have e2 : Nat.beq a 183 = false := by
      cases e : Nat.beq a 183 with
      | false => rfl
      | true => rw [Nat.eq_of_beq_eq_true e] at e1; cases e1
    refine (h.1 a ?_ e2).trans (hK.1 a ha)
    cases e : l.contains a with
    | false => rfl
    | true =>
      have := h1 a (by simpa using e)
      rw [e1] at this
      cases this
  · refine (h.2 q ?_).trans (hK.2 q hq)
    have e1 : v0.contains q = true := by simpa using hq
    cases e : ks.contains q with
    | false => rfl
    | true =>
      have := h2 q (by simpa using e)
      rw [e1] at this
      cases this
theorem K_J (h : K t s) (hJ : J t) : J s := J_but0 h hJ
end CHS
/-! bits of truth -/
def bi (b : Bool) : Int32 := if b then 1 else 0
theorem bi_t : bi true = 1 := rfl
theorem bi_f : bi false = 0 := rfl
theorem bi_if {b : Bool} {A B : mO} : (if bi b = 0 then A else B) = if b = true then B else A := by
  cases b <;> rfl
def exB (p : Nat → Bool) : Nat → Bool
  | 0 => false
  | n + 1 => exB p n || p n
theorem exB_iff {p : Nat → Bool} {n : Nat} : exB p n = true ↔ ∃ i, i < n ∧ p i = true := by
  induction n with
  | zero => exact ⟨fun h => (by cases h), fun ⟨i, hi, _⟩ => (by omega)⟩
  | succ n ih =>
    show (exB p n || p n) = true ↔ _
    rw [Bool.or_eq_true, ih]
    constructor
    · rintro (⟨i, h1, h2⟩ | h)
      · exact ⟨i, by omega, h2⟩
      · exact ⟨n, by omega, h⟩
    · rintro ⟨i, h1, h2⟩
      by_cases e : i = n
      · rw [e] at h2; exact Or.inr h2
      · exact Or.inl ⟨i, by omega, h2⟩
theorem exB_f {p : Nat → Bool} {n : Nat} (h : ∀ i, i < n → p i = false) : exB p n = false := by
  cases e : exB p n with
  | false => rfl
  | true =>
    obtain ⟨i, h1, h2⟩ := exB_iff.mp e
    rw [h i h1] at h2
    cases h2
