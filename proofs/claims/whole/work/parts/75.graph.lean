/-! WALKS AND LEAST COSTS. E l v u: line l leads from v to u; a l: what it adds; a walk of n lines with sum S costs c S + n -/
def Wk (E : Nat → Nat → Nat → Prop) (a : Nat → Nat) (tgt : Nat) : Nat → Nat → Nat → Prop
  | 0, v, S => v = tgt ∧ S = 0
  | n + 1, v, S => ∃ l u S', E l v u ∧ S = S' + a l ∧ Wk E a tgt n u S'
def mc (E : Nat → Nat → Nat → Prop) (a : Nat → Nat) (tgt c v x : Nat) : Prop := (∃ n S, Wk E a tgt n v S ∧ x = c * S + n) ∧ ∀ n S, Wk E a tgt n v S → x ≤ c * S + n
section MCS
variable {E : Nat → Nat → Nat → Prop} {a : Nat → Nat} {tgt c nl : Nat}
theorem mc_un {v x y : Nat} (h1 : mc E a tgt c v x) (h2 : mc E a tgt c v y) : x = y := by
  obtain ⟨⟨n, S, w, e⟩, h⟩ := h1
  obtain ⟨⟨m, T, w', e'⟩, h'⟩ := h2
  have := h m T w'
  have := h' n S w
  omega
theorem mc_ex : ∀ (k n v S : Nat), Wk E a tgt n v S → c * S + n ≤ k → ∃ x, mc E a tgt c v x ∧ x ≤ k := by
  intro k
  induction k with
  | zero =>
    intro n v S h hk
    exact ⟨0, ⟨⟨n, S, h, by omega⟩, fun _ _ _ => Nat.zero_le _⟩, Nat.le_refl _⟩
  | succ k ih =>
    intro n v S h hk
    by_cases c1 : ∃ m T, Wk E a tgt m v T ∧ c * T + m ≤ k
    · obtain ⟨m, T, w, e⟩ := c1
      obtain ⟨x, h1, h2⟩ := ih m v T w e
      exact ⟨x, h1, by omega⟩
    · have hx : c * S + n = k + 1 := by
        by_cases q : c * S + n ≤ k
        · exact absurd ⟨n, S, h, q⟩ c1
        · omega
      refine ⟨k + 1, ⟨⟨n, S, h, hx.symm⟩, fun m T w => ?_⟩, Nat.le_refl _⟩
      by_cases q : c * T + m ≤ k
      · exact absurd ⟨m, T, w, q⟩ c1
      · omega
theorem mc_of {n v S : Nat} (h : Wk E a tgt n v S) : ∃ x, mc E a tgt c v x ∧ x ≤ c * S + n := mc_ex _ n v S h (Nat.le_refl _)
theorem mc_tgt : mc E a tgt c tgt 0 := ⟨⟨0, 0, ⟨rfl, rfl⟩, by omega⟩, fun _ _ _ => Nat.zero_le _⟩
theorem mul_ad (c x y : Nat) : c * (x + y) = c * x + c * y := Nat.mul_add c x y
theorem mc_edge {l v u y : Nat} (h : mc E a tgt c u y) (he : E l v u) : ∃ x, mc E a tgt c v x ∧ x ≤ y + (c * a l + 1) := by
  obtain ⟨⟨n, S, w, e⟩, -⟩ := h
  obtain ⟨x, h1, h2⟩ := mc_of (c := c) (show Wk E a tgt (n + 1) v (S + a l) from ⟨l, u, S, he, rfl, w⟩)
  rw [mul_ad] at h2
  exact ⟨x, h1, by omega⟩
theorem mc_step {v x : Nat} (h : mc E a tgt c v x) (hv : v ≠ tgt) : ∃ l u y, E l v u ∧ mc E a tgt c u y ∧ x = y + (c * a l + 1) := by
  obtain ⟨⟨n, S, w, e⟩, hm⟩ := id h
  match n, w, e with
  | 0, w, _ => exact absurd w.1 hv
  | n + 1, ⟨l, u, S', he, hS, w⟩, e =>
    obtain ⟨y, h1, h2⟩ := mc_of (c := c) w
    obtain ⟨x', h3, h4⟩ := mc_edge h1 he
    have := mc_un h h3
    rw [hS, mul_ad] at e
    exact ⟨l, u, y, he, h1, by omega⟩
theorem mc_short (hb : ∀ l v u, E l v u → u < nl) : ∀ (x v : Nat), mc E a tgt c v x → v < nl → ∃ n S, Wk E a tgt n v S ∧ x = c * S + n ∧ n ≤ ctN (fun u => @decide (∃ y, y < x ∧ mc E a tgt c u y) (Classical.propDecidable _)) nl := by
  intro x
  induction x using Nat.strongRecOn with
  | _ x ih =>
    intro v h hv
    by_cases ht : v = tgt
    · have : x = 0 := by rw [ht] at h; exact mc_un h mc_tgt
      exact ⟨0, 0, ⟨ht, rfl⟩, by omega, Nat.zero_le _⟩
    · obtain ⟨l, u, y, he, hy, e⟩ := mc_step h ht
      obtain ⟨n, S, w, e2, hn⟩ := ih y (by omega) u hy (hb l v u he)
      refine ⟨n + 1, S + a l, ⟨l, u, S, he, rfl, w⟩, by rw [mul_ad]; omega, ?_⟩
      have := ctN_lt (p := fun u => @decide (∃ y', y' < y ∧ mc E a tgt c u y') (Classical.propDecidable _)) (q := fun u => @decide (∃ y, y < x ∧ mc E a tgt c u y) (Classical.propDecidable _)) (n := nl) (i := u) (fun i _ hp => by
        have hp := @of_decide_eq_true _ (Classical.propDecidable _) hp
        obtain ⟨z, z1, z2⟩ := hp
        exact @decide_eq_true _ (Classical.propDecidable _) ⟨z, by omega, z2⟩) (hb l v u he) (@decide_eq_false _ (Classical.propDecidable _) (fun ⟨z, z1, z2⟩ => by have := mc_un hy z2; omega)) (@decide_eq_true _ (Classical.propDecidable _) ⟨y, by omega, hy⟩)
      omega
theorem mc_sh (hb : ∀ l v u, E l v u → u < nl) {x v : Nat} (h : mc E a tgt c v x) (hv : v < nl) : ∃ n S, Wk E a tgt n v S ∧ x = c * S + n ∧ n < nl := by
  obtain ⟨n, S, w, e, hn⟩ := mc_short hb x v h hv
  refine ⟨n, S, w, e, ?_⟩
  have := ctN_lt (p := fun u => @decide (∃ y, y < x ∧ mc E a tgt c u y) (Classical.propDecidable _)) (q := fun _ => true) (n := nl) (i := v) (fun _ _ _ => rfl) hv (@decide_eq_false _ (Classical.propDecidable _) (fun ⟨z, z1, z2⟩ => by have := mc_un h z2; omega)) rfl
  have := ctN_le (fun _ => true) nl
  omega
theorem wk_sum {A : Nat} (hA : ∀ l v u, E l v u → a l ≤ A) : ∀ (n v S : Nat), Wk E a tgt n v S → S ≤ n * A := by
  intro n
  induction n with
  | zero => intro v S h; rw [h.2]; omega
  | succ n ih =>
    rintro v S ⟨l, u, S', he, hS, w⟩
    have h1 := ih u S' w
    have h2 := hA l v u he
    rw [hS, Nat.succ_mul]
    omega
/-- the two prices choose alike -/
theorem mc_lex (hb : ∀ l v u, E l v u → u < nl) (h8 : nl ≤ 8) {v x y : Nat} (hv : v < nl) (h1 : mc E a tgt 16 v x) (h2 : mc E a tgt 100 v y) : ∃ n S, n ≤ 7 ∧ x = 16 * S + n ∧ y = 100 * S + n ∧ Wk E a tgt n v S := by
  obtain ⟨n, S, w, e, hn⟩ := mc_sh hb h1 hv
  obtain ⟨m, T, w', e', hm⟩ := mc_sh hb h2 hv
  have k1 := h1.2 m T w'
  have k2 := h2.2 n S w
  have : S = T := by omega
  subst this
  exact ⟨n, S, by omega, e, by omega, w⟩
/-! relaxing -/
variable {INF : Nat}
def rlR (E : Nat → Nat → Nat → Prop) (a : Nat → Nat) (tgt c nl INF : Nat) (d : Nat → Nat) : Prop := d tgt = 0 ∧ ∀ v, v < nl → d v ≤ INF ∧ (d v < INF → ∃ n S, Wk E a tgt n v S ∧ d v = c * S + n)
def rlP (E : Nat → Nat → Nat → Prop) (a : Nat → Nat) (tgt c nl k : Nat) (d : Nat → Nat) : Prop := ∀ v, v < nl → ∀ n S, n ≤ k → Wk E a tgt n v S → d v ≤ c * S + n
/-- what one line's relaxing does -/
def rlX (E : Nat → Nat → Nat → Prop) (a : Nat → Nat) (c l : Nat) (d d' : Nat → Nat) : Prop := (∀ v, d' v ≤ d v) ∧ (∀ v, d' v = d v ∨ ∃ u, E l v u ∧ d' v = d u + (c * a l + 1)) ∧ ∀ v u, E l v u → d' v ≤ d u + (c * a l + 1)
def rlD (E : Nat → Nat → Nat → Prop) (a : Nat → Nat) (tgt c nl INF : Nat) (d : Nat → Nat) : Prop := ∀ v, v < nl → (∀ x, mc E a tgt c v x → x < INF → d v = x) ∧ ((∀ x, ¬ mc E a tgt c v x) → d v = INF)
theorem rlX_R (hb : ∀ l v u, E l v u → u < nl) {l : Nat} {d d' : Nat → Nat} (h : rlX E a c l d d') (hR : rlR E a tgt c nl INF d) : rlR E a tgt c nl INF d' := by
  obtain ⟨x1, x2, x3⟩ := h
  obtain ⟨r1, r2⟩ := hR
  refine ⟨by have := x1 tgt; omega, fun v hv => ⟨by have := x1 v; have := (r2 v hv).1; omega, fun hd => ?_⟩⟩
  rcases x2 v with e | ⟨u, he, e⟩
  · rw [e] at hd ⊢
    exact (r2 v hv).2 hd
  · obtain ⟨n, S, w, e2⟩ := (r2 u (hb l v u he)).2 (by omega)
    exact ⟨n + 1, S + a l, ⟨l, u, S, he, rfl, w⟩, by rw [e, e2, mul_ad]; omega⟩
theorem rl_fin (hb : ∀ l v u, E l v u → u < nl) {d : Nat → Nat} {k : Nat} (hR : rlR E a tgt c nl INF d) (hP : rlP E a tgt c nl k d) (hk : nl ≤ k + 1) : rlD E a tgt c nl INF d := by
  intro v hv
  obtain ⟨r1, r2⟩ := hR.2 v hv
  refine ⟨fun x hx hI => ?_, fun hn => ?_⟩
  · obtain ⟨n, S, w, e, hlt⟩ := mc_sh hb hx hv
    have h1 := hP v hv n S (by omega) w
    obtain ⟨m, T, w', e'⟩ := r2 (by omega)
    have := hx.2 m T w'
    omega
  · by_cases q : d v < INF
    · obtain ⟨m, T, w', e'⟩ := r2 q
      obtain ⟨x, hx, -⟩ := mc_of (c := c) w'
      exact absurd hx (hn x)
    · omega
theorem rl_rest (hb : ∀ l v u, E l v u → u < nl) {d : Nat → Nat} (hR : rlR E a tgt c nl INF d) (hF : ∀ l v u, E l v u → d v ≤ d u + (c * a l + 1)) : rlD E a tgt c nl INF d := by
  refine rl_fin hb (k := nl) hR ?_ (by omega)
  have : ∀ n v S, Wk E a tgt n v S → d v ≤ c * S + n := by
    intro n
    induction n with
    | zero => intro v S h; rw [h.1, hR.1]; omega
    | succ n ih =>
      rintro v S ⟨l, u, S', he, hS, w⟩
      have h1 := ih u S' w
      have h2 := hF l v u he
      rw [hS, mul_ad]
      omega
  exact fun v _ n S _ w => this n v S w
/-- a whole turn over the lines -/
theorem rl_turn {d0 d : Nat → Nat} {k : Nat} (hR : d tgt = 0) (hb : ∀ l v u, E l v u → u < nl) (hP : rlP E a tgt c nl k d0) (hT : ∀ l v u, E l v u → d v ≤ d0 u + (c * a l + 1)) : rlP E a tgt c nl (k + 1) d := by
  intro v hv n S hn w
  match n, w with
  | 0, w => rw [w.1, hR]; omega
  | n + 1, ⟨l, u, S', he, hS, w⟩ =>
    have h1 := hP u (hb l v u he) n S' (by omega) w
    have h2 := hT l v u he
    rw [hS, mul_ad]
    omega
theorem rl_first : rlR E a tgt c nl INF (fun v => if v = tgt then 0 else INF) ∧ rlP E a tgt c nl 0 (fun v => if v = tgt then 0 else INF) := by
  refine ⟨⟨if_pos rfl, fun v hv => ?_⟩, fun v hv n S hn w => ?_⟩
  · dsimp only
    by_cases e : v = tgt
    · rw [if_pos e]
      exact ⟨by omega, fun _ => ⟨0, 0, ⟨e, rfl⟩, by omega⟩⟩
    · rw [if_neg e]
      exact ⟨by omega, fun q => by omega⟩
  · have : n = 0 := by omega
    subst this
    dsimp only
    rw [if_pos w.1]
    omega
end MCS
