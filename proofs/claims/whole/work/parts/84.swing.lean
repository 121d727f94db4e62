/-! SWING: what is chosen, what goes by each line -/
section LEX
variable {t : mSt} {op : Nat → Bool} {a : Nat → Nat} {tgt : Nat}
theorem mc_both {E : Nat → Nat → Nat → Prop} {c c' v x : Nat} (h : mc E a tgt c v x) : ∃ y, mc E a tgt c' v y := by
  obtain ⟨⟨n, S, w, -⟩, -⟩ := h
  obtain ⟨y, hy, -⟩ := mc_of (c := c') w
  exact ⟨y, hy⟩
theorem tg_lex (hJ : J t) {l v : Nat} (hv : v < nld t) : tgP (edE t op) a tgt 16 l v = tgP (edE t op) a tgt 100 l v := by
  obtain ⟨-, h8, -⟩ := nld_ok hJ
  have hb := edE_b hJ (op := op)
  have key : tgP (edE t op) a tgt 16 l v = true ↔ tgP (edE t op) a tgt 100 l v = true := by
    rw [tgP_iff, tgP_iff]
    constructor
    · rintro ⟨u, x, he, h1, h2⟩
      obtain ⟨y, hy⟩ := mc_both (c' := 100) h1
      obtain ⟨z, hz⟩ := mc_both (c' := 100) h2
      obtain ⟨n, S, n7, e1, e2, -⟩ := mc_lex hb h8 (hb _ _ _ he) h1 hy
      obtain ⟨m, T, m7, f1, f2, -⟩ := mc_lex hb h8 hv h2 hz
      have : z = y + (100 * a l + 1) := by omega
      rw [this] at hz
      exact ⟨u, y, he, hy, hz⟩
    · rintro ⟨u, x, he, h1, h2⟩
      obtain ⟨y, hy⟩ := mc_both (c' := 16) h1
      obtain ⟨z, hz⟩ := mc_both (c' := 16) h2
      obtain ⟨n, S, n7, e1, e2, -⟩ := mc_lex hb h8 (hb _ _ _ he) hy h1
      obtain ⟨m, T, m7, f1, f2, -⟩ := mc_lex hb h8 hv hz h2
      have : z = y + (16 * a l + 1) := by omega
      rw [this] at hz
      exact ⟨u, y, he, hy, hz⟩
  cases e1 : tgP (edE t op) a tgt 16 l v with
  | true => exact (key.mp e1).symm
  | false =>
    cases e2 : tgP (edE t op) a tgt 100 l v with
    | false => rfl
    | true => rw [key.mpr e2] at e1; cases e1
theorem wy_lex (hJ : J t) : ∀ (f v x : Nat), v < nld t → mc (edE t op) a tgt 16 v x → wyL (tgP (edE t op) a tgt 16) (otN t) (nln t) tgt f v = wyL (tgP (edE t op) a tgt 100) (otN t) (nln t) tgt f v := by
  intro f
  induction f with
  | zero => intro v x _ _; rfl
  | succ f ih =>
    intro v x hv hm
    show (if v = tgt then [] else sk (fun l => tgP (edE t op) a tgt 16 l v) (nln t) 0 :: wyL (tgP (edE t op) a tgt 16) (otN t) (nln t) tgt f (otN t (sk (fun l => tgP (edE t op) a tgt 16 l v) (nln t) 0) v)) = (if v = tgt then [] else sk (fun l => tgP (edE t op) a tgt 100 l v) (nln t) 0 :: wyL (tgP (edE t op) a tgt 100) (otN t) (nln t) tgt f (otN t (sk (fun l => tgP (edE t op) a tgt 100 l v) (nln t) 0) v))
    by_cases e : v = tgt
    · rw [if_pos e, if_pos e]
    · have : (fun l => tgP (edE t op) a tgt 16 l v) = fun l => tgP (edE t op) a tgt 100 l v := funext (fun l => tg_lex hJ hv)
      rw [if_neg e, if_neg e, ← this]
      obtain ⟨l, u, y, e1, -, -, -, e2, hu, -, hy, -⟩ := tg_next hJ hm e
      rw [e1, e2, ih u y hu hy]
theorem pth_lex (hJ : J t) {src : Nat} (hs : src < nld t) : pthL t op a 16 src tgt = pthL t op a 100 src tgt := by
  by_cases h : ∃ x, mc (edE t op) a tgt 16 src x
  · obtain ⟨x, h⟩ := h
    obtain ⟨y, hy⟩ := mc_both (c' := 100) h
    rw [pth_y h, pth_y hy]
    exact wy_lex hJ 7 src x hs h
  · rw [pth_n (fun x q => h ⟨x, q⟩), pth_n (fun x q => h (mc_both q))]
end LEX
def inL (L : List Nat) (l : Nat) : Bool := exB (fun j => decide (L.getD j 0 = l)) L.length
def psm (f : Nat → Nat) (p : Nat → Bool) : Nat → Nat
  | 0 => 0
  | n + 1 => psm f p n + (if p n = true then f n else 0)
theorem psm_add {f : Nat → Nat} {p q r : Nat → Bool} (h : ∀ i, r i = (p i || q i)) (hd : ∀ i, ¬ (p i = true ∧ q i = true)) (n : Nat) : psm f r n = psm f p n + psm f q n := by
  induction n with
  | zero => rfl
  | succ n ih =>
    show psm f r n + (if r n = true then f n else 0) = (psm f p n + (if p n = true then f n else 0)) + (psm f q n + (if q n = true then f n else 0))
    rw [ih, h n]
    have := hd n
    cases hp : p n <;> cases hq : q n
    · rw [if_neg (by decide), if_neg (by decide)]; omega
    · rw [if_pos (by decide), if_neg (by decide), if_pos rfl]; omega
    · rw [if_pos (by decide), if_pos rfl, if_neg (by decide)]; omega
    · exact absurd ⟨hp, hq⟩ this
theorem psm_no {f : Nat → Nat} {p : Nat → Bool} {n : Nat} (h : ∀ i, i < n → p i = false) : psm f p n = 0 := by
  induction n with
  | zero => rfl
  | succ n ih =>
    show psm f p n + (if p n = true then f n else 0) = 0
    rw [ih (fun i hi => h i (by omega)), h n (by omega), if_neg (by decide)]
theorem psm_cg {f : Nat → Nat} {p q : Nat → Bool} {n : Nat} (h : ∀ i, i < n → p i = q i) : psm f p n = psm f q n := by
  induction n with
  | zero => rfl
  | succ n ih =>
    show psm f p n + (if p n = true then f n else 0) = psm f q n + (if q n = true then f n else 0)
    rw [ih (fun i hi => h i (by omega)), h n (by omega)]
theorem psm_le {f : Nat → Nat} {p : Nat → Bool} {n M : Nat} (h : ∀ i, i < n → f i ≤ M) : psm f p n ≤ n * M := by
  induction n with
  | zero => exact Nat.zero_le _
  | succ n ih =>
    have h1 := ih (fun i hi => h i (by omega))
    have h2 := h n (by omega)
    show psm f p n + (if p n = true then f n else 0) ≤ (n + 1) * M
    rw [Nat.succ_mul]
    split <;> omega
/-- a line's load grows by each place where it stands -/
def adZ (b : Nat → Nat) (m : Nat) (L : List Nat) : Nat → (Nat → Nat)
  | 0 => b
  | i + 1 => fun l => if l = L.getD i 0 then adZ b m L i l + m else adZ b m L i l
theorem adZ_eq {b : Nat → Nat} {m : Nat} {L : List Nat} (hL : L.Nodup) (l : Nat) : ∀ i, i ≤ L.length → adZ b m L i l = b l + (if exB (fun j => decide (L.getD j 0 = l)) i = true then m else 0) := by
  intro i
  induction i with
  | zero => intro _; rfl
  | succ i ih =>
    intro hi
    show (if l = L.getD i 0 then adZ b m L i l + m else adZ b m L i l) = b l + (if (exB (fun j => decide (L.getD j 0 = l)) i || decide (L.getD i 0 = l)) = true then m else 0)
    rw [ih (by omega)]
    by_cases e : l = L.getD i 0
    · have : exB (fun j => decide (L.getD j 0 = l)) i = false := exB_f (fun j hj => decide_eq_false (fun w => by
        have hp := List.pairwise_iff_getElem.mp hL j i (by omega) (by omega) hj
        rw [e] at w
        rw [List.getD_eq_getElem?_getD, List.getElem?_eq_getElem (by omega), List.getD_eq_getElem?_getD, List.getElem?_eq_getElem (by omega)] at w
        exact hp w))
      rw [if_pos e, this, decide_eq_true e.symm, if_neg (by decide), if_pos (by decide), Nat.add_zero]
    · rw [if_neg e, decide_eq_false (fun w => e w.symm), Bool.or_false]
def mqN (t : mSt) (q : Nat) : Nat := (t 46 q).toInt.toNat
def opS (t : mSt) (l : Nat) : Bool := !decide (rmV t false l ≤ 0)
noncomputable def swW (t : mSt) (a : Nat → Nat) (q : Nat) : List Nat := if t 46 q = 0 then [] else pthL t (opS t) a 100 (srN t q) (tgN t q)
noncomputable def cbN (t : mSt) (a : Nat → Nat) (l q : Nat) : Nat := if inL (swW t a q) l = true then mqN t q else 0
noncomputable def ldS (t : mSt) (a : Nat → Nat) (l : Nat) : Nat := psm (cbN t a l) (fun _ => true) (ndm t)
noncomputable def swA (t : mSt) : Nat → (Nat → Nat)
  | 0 => fun _ => 1
  | k + 1 => fun l => 1 + ldS t (swA t k) l
section SWF
variable {t : mSt}
theorem mq_ok (hJ : J t) {q : Nat} (hq : q < ndm t) : t 46 q = nn (mqN t q) ∧ mqN t q ≤ 99 := by
  obtain ⟨-, -, -, -, -, -, d7⟩ := dm_ok hJ hq
  have := d7.2
  exact ⟨nn_x d7.1, by show (t 46 q).toInt.toNat ≤ 99; omega⟩
theorem ldS_le (hJ : J t) (a : Nat → Nat) (l : Nat) : ldS t a l ≤ 1188 := by
  obtain ⟨-, h12, -⟩ := ndm_ok hJ
  have := psm_le (f := cbN t a l) (p := fun _ => true) (n := ndm t) (M := 99) (fun q hq => by
    show (if inL (swW t a q) l = true then mqN t q else 0) ≤ 99
    have := (mq_ok hJ hq).2
    split <;> omega)
  have h2 : ndm t * 99 ≤ 12 * 99 := Nat.mul_le_mul_right _ h12
  show psm (cbN t a l) (fun _ => true) (ndm t) ≤ 1188
  omega
theorem swA_le (hJ : J t) (k : Nat) : ∀ l, swA t k l ≤ 1189 := by
  intro l
  cases k with
  | zero => show 1 ≤ 1189; omega
  | succ k =>
    have := ldS_le hJ (swA t k) l
    show 1 + ldS t (swA t k) l ≤ 1189
    omega
theorem swW_len {a : Nat → Nat} {q : Nat} : (swW t a q).length ≤ 7 := by
  show (if t 46 q = 0 then [] else pthL t (opS t) a 100 (srN t q) (tgN t q)).length ≤ 7
  split
  · exact Nat.zero_le _
  · exact pth_len
theorem swW_mem (hJ : J t) {a : Nat → Nat} {q : Nat} (hq : q < ndm t) : ∀ i, i < (swW t a q).length → (swW t a q).getD i 0 < nln t := by
  obtain ⟨-, -, -, d4, -⟩ := dm_ok hJ hq
  intro i hi
  rw [List.getD_eq_getElem?_getD, List.getElem?_eq_getElem hi]
  have hm := List.getElem_mem hi
  have : ∀ l, l ∈ swW t a q → l < nln t := fun l hl => by
    have hl : l ∈ (if t 46 q = 0 then [] else pthL t (opS t) a 100 (srN t q) (tgN t q)) := hl
    by_cases z : t 46 q = 0
    · rw [if_pos z] at hl; cases hl
    · rw [if_neg z] at hl
      exact (pth_mem hJ d4 l hl).1
  exact this _ hm
theorem swW_nodup (hJ : J t) {a : Nat → Nat} {q : Nat} (hq : q < ndm t) : (swW t a q).Nodup := by
  obtain ⟨-, -, -, d4, -⟩ := dm_ok hJ hq
  show (if t 46 q = 0 then [] else pthL t (opS t) a 100 (srN t q) (tgN t q)).Nodup
  split
  · exact List.nodup_nil
  · exact pth_nodup hJ d4
/-- beyond the lines there is no load -/
theorem ldS_out (hJ : J t) {a : Nat → Nat} {l : Nat} (hl : nln t ≤ l) : ldS t a l = 0 := by
  show psm (cbN t a l) (fun _ => true) (ndm t) = 0
  have : ∀ n, n ≤ ndm t → psm (cbN t a l) (fun _ => true) n = 0 := by
    intro n
    induction n with
    | zero => intro _; rfl
    | succ n ih =>
      intro hn
      show psm (cbN t a l) (fun _ => true) n + (if true = true then cbN t a l n else 0) = 0
      rw [ih (by omega), if_pos rfl]
      show 0 + (if inL (swW t a n) l = true then mqN t n else 0) = 0
      rw [show inL (swW t a n) l = false from exB_f (fun j hj => decide_eq_false (fun w => by
        have := swW_mem hJ (a := a) (show n < ndm t by omega) j hj
        omega))]
      rfl
  exact this _ (Nat.le_refl _)
/-- like loads in two turns: from then on all is alike -/
theorem sw_per {j k : Nat} (h : ldS t (swA t j) = ldS t (swA t k)) : ∀ i, swA t (j + 1 + i) = swA t (k + 1 + i) := by
  intro i
  induction i with
  | zero =>
    show (fun l => 1 + ldS t (swA t j) l) = fun l => 1 + ldS t (swA t k) l
    rw [h]
  | succ i ih =>
    show (fun l => 1 + ldS t (swA t (j + 1 + i)) l) = fun l => 1 + ldS t (swA t (k + 1 + i)) l
    rw [ih]
theorem sw_mod {j r : Nat} (hr : 1 ≤ r) (h : ldS t (swA t j) = ldS t (swA t (j + r))) : ∀ x, swA t (j + 1 + x) = swA t (j + 1 + x % r) := by
  intro x
  induction x using Nat.strongRecOn with
  | _ x ih =>
    by_cases c : x < r
    · rw [Nat.mod_eq_of_lt c]
    · have h1 := ih (x - r) (by omega)
      have h2 := sw_per h (x - r)
      have e : j + r + 1 + (x - r) = j + 1 + x := by omega
      rw [e] at h2
      rw [← h2, h1]
      have : (x - r) % r = x % r := by
        conv => rhs; rw [show x = (x - r) + r by omega, Nat.add_mod_right]
      rw [this]
end SWF
