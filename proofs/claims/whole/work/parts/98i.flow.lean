/-! SAFE: ties, cuts and flows -/
section LB2
variable {Q Q' : Nat → Bool} {fr to : Nat → Nat}
theorem lb_keep {α : Type} {g : Nat → α} (n : Nat) : (∀ k, k < n → Q k = true → g (fr k) = g (to k)) → ∀ u, g (lbM Q fr to n u) = g u := by
  induction n with
  | zero => intro _ u; rfl
  | succ n ih =>
    intro h u
    have i := ih (fun k hk => h k (by omega))
    show g (if Q n = true ∧ lbM Q fr to n u = lbM Q fr to n (fr n) then lbM Q fr to n (to n) else lbM Q fr to n u) = g u
    by_cases c : Q n = true ∧ lbM Q fr to n u = lbM Q fr to n (fr n)
    · rw [if_pos c, i (to n), ← h n (by omega) c.1, ← i (fr n), ← c.2, i u]
    · rw [if_neg c, i u]
theorem lb_min {α : Type} {g : Nat → α} {n : Nat} (h : ∀ k, k < n → Q k = true → g (fr k) = g (to k)) {u v : Nat} (e : lbM Q fr to n u = lbM Q fr to n v) : g u = g v := by
  rw [← lb_keep n h u, e, lb_keep n h v]
theorem lb_tie {k n : Nat} (hk : k < n) (hq : Q k = true) : lbM Q fr to n (fr k) = lbM Q fr to n (to k) := by
  induction n with
  | zero => omega
  | succ n ih =>
    show (if Q n = true ∧ lbM Q fr to n (fr k) = lbM Q fr to n (fr n) then lbM Q fr to n (to n) else lbM Q fr to n (fr k)) = (if Q n = true ∧ lbM Q fr to n (to k) = lbM Q fr to n (fr n) then lbM Q fr to n (to n) else lbM Q fr to n (to k))
    by_cases e : k = n
    · subst e
      rw [if_pos ⟨hq, rfl⟩]
      split <;> rfl
    · rw [ih (by omega)]
theorem lb_sub {n : Nat} (h : ∀ k, k < n → Q k = true → Q' k = true) {u v : Nat} (e : lbM Q fr to n u = lbM Q fr to n v) : lbM Q' fr to n u = lbM Q' fr to n v :=
  lb_min (g := lbM Q' fr to n) (fun k hk hq => lb_tie hk (h k hk hq)) e
end LB2
def iB (b : Bool) : Int := if b = true then 1 else 0
def ckI (x y : Bool) (u : Int32) : Int := if u = 1 then iB x - iB y else if u = 2 then iB y - iB x else 0
theorem ck_v (a b : Bool) (u : Int32) : ckI a b u = iB a - iB b ∨ ckI a b u = iB b - iB a ∨ ckI a b u = 0 := by
  unfold ckI
  split
  · exact Or.inl rfl
  · split
    · exact Or.inr (Or.inl rfl)
    · exact Or.inr (Or.inr rfl)
def nfS (S : Nat → Bool) (cf ct : Nat → Nat) (u : Nat → Int32) : Nat → Int
  | 0 => 0
  | e + 1 => nfS S cf ct u e + ckI (S (cf e)) (S (ct e)) (u e)
section FLW
variable {S : Nat → Bool} {cf ct : Nat → Nat} {u u' : Nat → Int32} {E : Nat}
theorem nf_upd {i : Nat} (hi : i < E) (h : ∀ e, e ≠ i → u' e = u e) : nfS S cf ct u' E = nfS S cf ct u E - ckI (S (cf i)) (S (ct i)) (u i) + ckI (S (cf i)) (S (ct i)) (u' i) := by
  induction E with
  | zero => omega
  | succ E ih =>
    show nfS S cf ct u' E + ckI (S (cf E)) (S (ct E)) (u' E) = nfS S cf ct u E + ckI (S (cf E)) (S (ct E)) (u E) - ckI (S (cf i)) (S (ct i)) (u i) + ckI (S (cf i)) (S (ct i)) (u' i)
    by_cases e : i = E
    · subst e
      have : ∀ n, n ≤ i → nfS S cf ct u' n = nfS S cf ct u n := by
        intro n
        induction n with
        | zero => intro _; rfl
        | succ n ihn =>
          intro hn
          show nfS S cf ct u' n + ckI (S (cf n)) (S (ct n)) (u' n) = nfS S cf ct u n + ckI (S (cf n)) (S (ct n)) (u n)
          rw [ihn (by omega), h n (by omega)]
      rw [this i (Nat.le_refl _)]
      omega
    · rw [ih (by omega), h E (fun z => e z.symm)]
      omega
theorem nf_zero (h : ∀ e, e < E → u e = 0) : nfS S cf ct u E = 0 := by
  induction E with
  | zero => rfl
  | succ E ih =>
    show nfS S cf ct u E + ckI (S (cf E)) (S (ct E)) (u E) = 0
    rw [ih (fun e he => h e (by omega)), h E (by omega)]
    rfl
theorem nf_le : nfS S cf ct u E ≤ (ctN (fun e => S (cf e) != S (ct e)) E : Int) := by
  induction E with
  | zero => exact Int.le_refl _
  | succ E ih =>
    have e : ctN (fun e => S (cf e) != S (ct e)) (E + 1) = ctN (fun e => S (cf e) != S (ct e)) E + (if (S (cf E) != S (ct E)) = true then 1 else 0) := rfl
    show nfS S cf ct u E + ckI (S (cf E)) (S (ct E)) (u E) ≤ _
    rw [e]
    have : ckI (S (cf E)) (S (ct E)) (u E) ≤ ((if (S (cf E) != S (ct E)) = true then 1 else 0 : Nat) : Int) := by
      rcases ck_v (S (cf E)) (S (ct E)) (u E) with k | k | k <;> rw [k] <;> cases S (cf E) <;> cases S (ct E) <;> decide
    omega
theorem nf_cut (h : ∀ e, e < E → (S (cf e) = true → S (ct e) = false → u e = 1) ∧ (S (cf e) = false → S (ct e) = true → u e = 2)) : nfS S cf ct u E = (ctN (fun e => S (cf e) != S (ct e)) E : Int) := by
  induction E with
  | zero => rfl
  | succ E ih =>
    have e : ctN (fun e => S (cf e) != S (ct e)) (E + 1) = ctN (fun e => S (cf e) != S (ct e)) E + (if (S (cf E) != S (ct E)) = true then 1 else 0) := rfl
    show nfS S cf ct u E + ckI (S (cf E)) (S (ct E)) (u E) = _
    rw [e, ih (fun e he => h e (by omega))]
    have hE := h E (by omega)
    have : ckI (S (cf E)) (S (ct E)) (u E) = ((if (S (cf E) != S (ct E)) = true then 1 else 0 : Nat) : Int) := by
      cases a : S (cf E) <;> cases b : S (ct E)
      · rcases ck_v false false (u E) with k | k | k <;> rw [k] <;> decide
      · rw [hE.2 a b]; decide
      · rw [hE.1 a b]; decide
      · rcases ck_v true true (u E) with k | k | k <;> rw [k] <;> decide
    omega
theorem ctN_one {p : Nat → Bool} : (∀ i j, i < E → j < E → p i = true → p j = true → i = j) → ctN p E ≤ 1 := by
  intro h
  induction E with
  | zero => exact Nat.zero_le _
  | succ E ih =>
    have e : ctN p (E + 1) = ctN p E + (if p E = true then 1 else 0) := rfl
    by_cases c : p E = true
    · have : ctN p E = ctN p 0 := ctN_no (Nat.zero_le _) (fun i _ hi => by
        cases q : p i with
        | false => rfl
        | true =>
          have := h i E (by omega) (by omega) q c
          omega)
      rw [e, this, if_pos c]
      exact Nat.le_refl _
    · rw [e, if_neg c]
      exact ih (fun i j hi hj => h i j (by omega) (by omega))
theorem ctN_or {p q r : Nat → Bool} (h : ∀ e, e < E → p e = true → q e = true ∨ r e = true) : ctN p E ≤ ctN q E + ctN r E := by
  induction E with
  | zero => exact Nat.zero_le _
  | succ E ih =>
    have e1 : ctN p (E + 1) = ctN p E + (if p E = true then 1 else 0) := rfl
    have e2 : ctN q (E + 1) = ctN q E + (if q E = true then 1 else 0) := rfl
    have e3 : ctN r (E + 1) = ctN r E + (if r E = true then 1 else 0) := rfl
    have := ih (fun e he => h e (by omega))
    by_cases c : p E = true
    · rcases h E (by omega) c with k | k
      · rw [e1, e2, e3, if_pos c, if_pos k]; omega
      · rw [e1, e2, e3, if_pos c, if_pos k]; omega
    · rw [e1, e2, e3, if_neg c]; omega
theorem ctN_pick {p : Nat → Bool} {n : Nat} (h : ctN p E ≤ n + 1) : ∃ a, ctN (fun e => p e && !decide (e = a)) E ≤ n := by
  rcases first_bad (P := fun i => p i = false) E with q | ⟨a, a1, a2, -⟩
  · refine ⟨0, ?_⟩
    have : ctN (fun e => p e && !decide (e = 0)) E = ctN (fun e => p e && !decide (e = 0)) 0 := ctN_no (Nat.zero_le _) (fun i _ hi => by rw [q i hi, Bool.false_and])
    rw [this]
    exact Nat.zero_le _
  · refine ⟨a, ?_⟩
    have a3 : p a = true := by cases e : p a; exact absurd e a2; rfl
    have := ctN_del (p := p) (q := fun e => p e && !decide (e = a)) a1 a3 (by rw [decide_eq_true rfl, Bool.not_true, Bool.and_false]) (fun i hi => by rw [decide_eq_false hi, Bool.not_false, Bool.and_true])
    omega
theorem ctN_two {p : Nat → Bool} (h : ctN p E ≤ 2) : ∃ a b, ∀ e, e < E → p e = true → e = a ∨ e = b := by
  obtain ⟨a, ha⟩ := ctN_pick h
  obtain ⟨b, hb⟩ := ctN_pick ha
  refine ⟨a, b, fun e he hp => ?_⟩
  by_cases c : e = a
  · exact Or.inl c
  · by_cases d : e = b
    · exact Or.inr d
    · have := ctN_pos (p := fun e => (p e && !decide (e = a)) && !decide (e = b)) he (by rw [hp, decide_eq_false c, decide_eq_false d]; rfl)
      omega
end FLW
/-- the ties of the class, and the same ones in the reference -/
def TM (Q0 : Nat → Bool) (fr to : Nat → Nat) (E : Nat) (cf ct : Nat → Nat) (pi : Nat → Nat) : Prop := (∀ e, e < E → pi e < 20) ∧ (∀ e e', e < E → e' < E → pi e = pi e' → e = e') ∧ (∀ e, e < E → Q0 (pi e) = true ∧ fr (pi e) = cf e ∧ to (pi e) = ct e) ∧ ∀ k, k < 20 → Q0 k = true → ∃ e, e < E ∧ pi e = k
def qAB (Q0 : Nat → Bool) (a b k : Nat) : Bool := !decide (k = a) && (!decide (k = b) && Q0 k)
section CUT
variable {Q0 : Nat → Bool} {fr to cf ct : Nat → Nat} {E x y : Nat} {u : Nat → Int32} {pi : Nat → Nat}
/-- three ways: no two ties part them -/
theorem cut3 (M : TM Q0 fr to E cf ct pi) (hf : ∀ S : Nat → Bool, nfS S cf ct u E = 3 * (iB (S x) - iB (S y))) (a b : Nat) : lbM (qAB Q0 a b) fr to 20 x = lbM (qAB Q0 a b) fr to 20 y := by
  by_cases c : lbM (qAB Q0 a b) fr to 20 x = lbM (qAB Q0 a b) fr to 20 y
  · exact c
  · exfalso
    have h1 := hf (fun v => decide (lbM (qAB Q0 a b) fr to 20 x = lbM (qAB Q0 a b) fr to 20 v))
    rw [decide_eq_true rfl, decide_eq_false c] at h1
    have h2 := nf_le (S := fun v => decide (lbM (qAB Q0 a b) fr to 20 x = lbM (qAB Q0 a b) fr to 20 v)) (cf := cf) (ct := ct) (u := u) (E := E)
    have h3 : ctN (fun e => decide (lbM (qAB Q0 a b) fr to 20 x = lbM (qAB Q0 a b) fr to 20 (cf e)) != decide (lbM (qAB Q0 a b) fr to 20 x = lbM (qAB Q0 a b) fr to 20 (ct e))) E ≤ ctN (fun e => decide (pi e = a)) E + ctN (fun e => decide (pi e = b)) E := ctN_or (fun e he hp => by
      by_cases ea : pi e = a
      · exact Or.inl (decide_eq_true ea)
      · by_cases eb : pi e = b
        · exact Or.inr (decide_eq_true eb)
        · exfalso
          obtain ⟨o1, o2, o3⟩ := M.2.2.1 e he
          have := lb_tie (Q := qAB Q0 a b) (fr := fr) (to := to) (M.1 e he) (by unfold qAB; rw [decide_eq_false ea, decide_eq_false eb, o1]; rfl)
          rw [o2, o3] at this
          rw [this] at hp
          cases z : decide (lbM (qAB Q0 a b) fr to 20 x = lbM (qAB Q0 a b) fr to 20 (ct e)) <;> rw [z] at hp <;> cases hp)
    have h4 : ∀ k, ctN (fun e => decide (pi e = k)) E ≤ 1 := fun k => ctN_one (fun i j hi hj p q => M.2.1 i j hi hj (by rw [of_decide_eq_true p, of_decide_eq_true q]))
    have := h4 a
    have := h4 b
    have e1 : iB true = 1 := rfl
    have e0 : iB false = 0 := rfl
    rw [e1, e0] at h1
    rw [h1] at h2
    omega
/-- stuck after at most two ways: two ties part them -/
theorem cut2 (M : TM Q0 fr to E cf ct pi) {S : Nat → Bool} {f : Nat} (hf2 : f ≤ 2) (hf : nfS S cf ct u E = f * (iB (S x) - iB (S y))) (hx : S x = true) (hy : S y = false) (hc : ∀ e, e < E → (S (cf e) = true → S (ct e) = false → u e = 1) ∧ (S (cf e) = false → S (ct e) = true → u e = 2)) : ∃ a b, a < 20 ∧ b < 20 ∧ lbM (qAB Q0 a b) fr to 20 x ≠ lbM (qAB Q0 a b) fr to 20 y := by
  rw [nf_cut hc, hx, hy] at hf
  have e1 : iB true = 1 := rfl
  have e0 : iB false = 0 := rfl
  rw [e1, e0] at hf
  obtain ⟨a, b, hab⟩ := ctN_two (p := fun e => S (cf e) != S (ct e)) (E := E) (by omega)
  have hA : ∀ a, (if a < E then pi a else 0) < 20 := fun a => by
    split
    · exact M.1 a (by assumption)
    · decide
  refine ⟨if a < E then pi a else 0, if b < E then pi b else 0, hA a, hA b, fun w => ?_⟩
  have := lb_min (g := S) (fun k hk hq => by
    unfold qAB at hq
    obtain ⟨q1, q2⟩ := Bool.and_eq_true_iff.mp hq
    obtain ⟨q2, q3⟩ := Bool.and_eq_true_iff.mp q2
    obtain ⟨e, he, hp⟩ := M.2.2.2 k hk q3
    obtain ⟨o1, o2, o3⟩ := M.2.2.1 e he
    rw [hp] at o2 o3
    rw [o2, o3]
    cases z : (S (cf e) != S (ct e)) with
    | false => exact eq_of_beq (by
        have : (!(S (cf e) == S (ct e))) = false := z
        cases q : (S (cf e) == S (ct e)) with
        | true => rfl
        | false => rw [q] at this; cases this)
    | true =>
      exfalso
      rcases hab e he z with r | r
      · rw [← r, if_pos he, hp, decide_eq_true rfl] at q1; cases q1
      · rw [← r, if_pos he, hp, decide_eq_true rfl] at q2; cases q2) w
  rw [hx, hy] at this
  cases this
end CUT
