/-! ORDER by a rule -/
def pfF (pf : Nat → Int32) (St : Nat) : Nat → Nat
  | 0 => 3
  | n + 1 => if St.testBit n = true then pfF pf St n else if pfF pf St n = 3 then n else if pf (pfF pf St n) ≤ pf n then pfF pf St n else n
def psJ (cd : Nat → Bool) (hr : Nat → Int32) : Nat → Nat
  | 0 => 9
  | n + 1 => if cd n = true ∧ (psJ cd hr n = 9 ∨ hr n < hr (psJ cd hr n)) then n else psJ cd hr n
theorem pfF_ok (pf : Nat → Int32) (St : Nat) : ∀ n, n ≤ 3 → pfF pf St n = 3 ∨ (pfF pf St n < n ∧ St.testBit (pfF pf St n) = false) := by
  intro n
  induction n with
  | zero => intro _; exact Or.inl rfl
  | succ n ih =>
    intro hn
    have h := ih (by omega)
    show (if St.testBit n = true then pfF pf St n else if pfF pf St n = 3 then n else if pf (pfF pf St n) ≤ pf n then pfF pf St n else n) = 3 ∨ ((if St.testBit n = true then pfF pf St n else if pfF pf St n = 3 then n else if pf (pfF pf St n) ≤ pf n then pfF pf St n else n) < n + 1 ∧ St.testBit (if St.testBit n = true then pfF pf St n else if pfF pf St n = 3 then n else if pf (pfF pf St n) ≤ pf n then pfF pf St n else n) = false)
    by_cases c1 : St.testBit n = true
    · rw [if_pos c1]
      rcases h with h | ⟨h1, h2⟩
      · exact Or.inl h
      · exact Or.inr ⟨by omega, h2⟩
    · have c1' : St.testBit n = false := by cases e : St.testBit n; rfl; exact absurd e c1
      rw [if_neg c1]
      by_cases c2 : pfF pf St n = 3
      · rw [if_pos c2]; exact Or.inr ⟨by omega, c1'⟩
      · rw [if_neg c2]
        by_cases c3 : pf (pfF pf St n) ≤ pf n
        · rw [if_pos c3]
          rcases h with h | ⟨h1, h2⟩
          · exact absurd h c2
          · exact Or.inr ⟨by omega, h2⟩
        · rw [if_neg c3]; exact Or.inr ⟨by omega, c1'⟩
theorem pfF_none (pf : Nat → Int32) (St : Nat) : ∀ n, n ≤ 3 → (∀ j, j < n → St.testBit j = true) → pfF pf St n = 3 := by
  intro n
  induction n with
  | zero => intro _ _; rfl
  | succ n ih =>
    intro hn h
    show (if St.testBit n = true then pfF pf St n else _) = 3
    rw [if_pos (h n (by omega))]
    exact ih (by omega) (fun j hj => h j (by omega))
theorem psJ_ok (cd : Nat → Bool) (hr : Nat → Int32) : ∀ n, n ≤ 7 → psJ cd hr n = 9 ∨ (psJ cd hr n < n ∧ cd (psJ cd hr n) = true) := by
  intro n
  induction n with
  | zero => intro _; exact Or.inl rfl
  | succ n ih =>
    intro hn
    have h := ih (by omega)
    show (if cd n = true ∧ (psJ cd hr n = 9 ∨ hr n < hr (psJ cd hr n)) then n else psJ cd hr n) = 9 ∨ ((if cd n = true ∧ (psJ cd hr n = 9 ∨ hr n < hr (psJ cd hr n)) then n else psJ cd hr n) < n + 1 ∧ cd (if cd n = true ∧ (psJ cd hr n = 9 ∨ hr n < hr (psJ cd hr n)) then n else psJ cd hr n) = true)
    by_cases c : cd n = true ∧ (psJ cd hr n = 9 ∨ hr n < hr (psJ cd hr n))
    · rw [if_pos c]; exact Or.inr ⟨by omega, c.1⟩
    · rw [if_neg c]
      rcases h with h | ⟨h1, h2⟩
      · exact Or.inl h
      · exact Or.inr ⟨by omega, h2⟩
/-- a ship's x, y, reel, free; who stands still, what is done (sets), the cost -/
abbrev plP : Type := (Nat → Int32) × (Nat → Int32) × (Nat → Int32) × (Nat → Int32) × Nat × Nat × Int32
def pX (p : plP) : Nat → Int32 := p.1
def pY (p : plP) : Nat → Int32 := p.2.1
def pR (p : plP) : Nat → Int32 := p.2.2.1
def pF (p : plP) : Nat → Int32 := p.2.2.2.1
def pS (p : plP) : Nat := p.2.2.2.2.1
def pD (p : plP) : Nat := p.2.2.2.2.2.1
def pC (p : plP) : Int32 := p.2.2.2.2.2.2
def pcB (t : mSt) (p : plP) (j k : Nat) : Bool := !(pD p).testBit k && (lvB t j (jI t k) && !decide (pR p j < rlV t (jI t k)))
def phV (t : mSt) (p : plP) (j k : Nat) : Int32 := hrV t (jI t k) (pX p j) (pY p j)
def pJ0 (t : mSt) (p : plP) : Nat := pfF (pF p) (pS p) (nsh t)
def pK0 (t : mSt) (p : plP) : Nat := psJ (pcB t p (pJ0 t p)) (phV t p (pJ0 t p)) (jnN t)
noncomputable def plS (t : mSt) (p : plP) : plP := if pJ0 t p = 3 then p else if pK0 t p = 9 then (pX p, pY p, pR p, pF p, pS p ||| 2 ^ pJ0 t p, pD p, pC p) else (upd (pX p) (pJ0 t p) (bxV t (jI t (pK0 t p))), upd (pY p) (pJ0 t p) (byV t (jI t (pK0 t p))), upd (pR p) (pJ0 t p) (pR p (pJ0 t p) - rlV t (jI t (pK0 t p))), upd (pF p) (pJ0 t p) (pF p (pJ0 t p) + phV t p (pJ0 t p) (pK0 t p)), pS p, pD p ||| 2 ^ pK0 t p, pC p + wgV t (pK0 t p) * ((pF p (pJ0 t p) + phV t p (pJ0 t p) (pK0 t p)) - t 35 1))
noncomputable def plI (t : mSt) : Nat → plP → plP
  | 0, p => p
  | n + 1, p => plI t n (plS t p)
theorem plI_fix {t : mSt} {p : plP} (h : pJ0 t p = 3) : ∀ n, plI t n p = p := by
  intro n
  induction n with
  | zero => rfl
  | succ n ih =>
    have : plS t p = p := if_pos h
    show plI t n (plS t p) = p
    rw [this]; exact ih
/-- what holds of such a state -/
def plG (t : mSt) (p : plP) : Prop := (∀ j, bd (pX p j) 0 99 ∧ bd (pY p j) 0 99) ∧ pS p < 2 ^ 3 ∧ pD p < 2 ^ jnN t
section PLN
variable {t s : mSt}
theorem plG_step (hJ : J t) (h7 : jnN t ≤ 7) {p : plP} (h : plG t p) : plG t (plS t p) := by
  obtain ⟨-, h3, -⟩ := nsh_ok hJ
  obtain ⟨g1, g2, g3⟩ := h
  unfold plS
  by_cases c1 : pJ0 t p = 3
  · rw [if_pos c1]; exact ⟨g1, g2, g3⟩
  · rw [if_neg c1]
    have hj : pJ0 t p < nsh t := by
      rcases pfF_ok (pF p) (pS p) (nsh t) h3 with h | h
      · exact absurd h c1
      · exact h.1
    by_cases c2 : pK0 t p = 9
    · rw [if_pos c2]
      exact ⟨g1, or_lt g2 (by omega), g3⟩
    · rw [if_neg c2]
      have hk : pK0 t p < jnN t := by
        rcases psJ_ok (pcB t p (pJ0 t p)) (phV t p (pJ0 t p)) (jnN t) h7 with h | h
        · exact absurd h c2
        · exact h.1
      have hb := bxy_bd (HB_of hJ (jI_lt hk))
      refine ⟨fun j => ?_, g2, or_lt g3 hk⟩
      show bd (upd (pX p) (pJ0 t p) (bxV t (jI t (pK0 t p))) j) 0 99 ∧ bd (upd (pY p) (pJ0 t p) (byV t (jI t (pK0 t p))) j) 0 99
      unfold upd
      by_cases e : j = pJ0 t p
      · rw [if_pos e, if_pos e]; exact hb
      · rw [if_neg e, if_neg e]; exact g1 j
def plM (t : mSt) (p : plP) : Nat := ctN (fun j => !(pS p).testBit j) (nsh t) + ctN (fun k => !(pD p).testBit k) (jnN t)
theorem plM_step (hJ : J t) (h7 : jnN t ≤ 7) {p : plP} (h : pJ0 t p ≠ 3) : plM t (plS t p) < plM t p := by
  obtain ⟨-, h3, -⟩ := nsh_ok hJ
  have hj : pJ0 t p < nsh t ∧ (pS p).testBit (pJ0 t p) = false := by
    rcases pfF_ok (pF p) (pS p) (nsh t) h3 with q | q
    · exact absurd q h
    · exact q
  unfold plS
  rw [if_neg h]
  by_cases c2 : pK0 t p = 9
  · rw [if_pos c2]
    show ctN (fun j => !(pS p ||| 2 ^ pJ0 t p).testBit j) (nsh t) + ctN (fun k => !(pD p).testBit k) (jnN t) < plM t p
    have := ctN_lt (p := fun j => !(pS p ||| 2 ^ pJ0 t p).testBit j) (q := fun j => !(pS p).testBit j) (n := nsh t) (i := pJ0 t p) (fun i _ hi => by
      rw [tb_or] at hi
      cases e : (pS p).testBit i with
      | false => rfl
      | true => rw [e] at hi; cases hi) hj.1 (by rw [tb_or, decide_eq_true rfl, Bool.or_true]; rfl) (by rw [hj.2]; rfl)
    unfold plM
    omega
  · rw [if_neg c2]
    have hk : pK0 t p < jnN t ∧ pcB t p (pJ0 t p) (pK0 t p) = true := by
      rcases psJ_ok (pcB t p (pJ0 t p)) (phV t p (pJ0 t p)) (jnN t) h7 with q | q
      · exact absurd q c2
      · exact q
    have hd : (pD p).testBit (pK0 t p) = false := by
      have := hk.2
      unfold pcB at this
      cases e : (pD p).testBit (pK0 t p) with
      | false => rfl
      | true => rw [e] at this; cases this
    show ctN (fun j => !(pS p).testBit j) (nsh t) + ctN (fun k => !(pD p ||| 2 ^ pK0 t p).testBit k) (jnN t) < plM t p
    have := ctN_lt (p := fun k => !(pD p ||| 2 ^ pK0 t p).testBit k) (q := fun k => !(pD p).testBit k) (n := jnN t) (i := pK0 t p) (fun i _ hi => by
      rw [tb_or] at hi
      cases e : (pD p).testBit i with
      | false => rfl
      | true => rw [e] at hi; cases hi) hk.1 (by rw [tb_or, decide_eq_true rfl, Bool.or_true]; rfl) (by rw [hd]; rfl)
    unfold plM
    omega
theorem plM_zero (hJ : J t) {p : plP} (h : plM t p = 0) : pJ0 t p = 3 := by
  obtain ⟨-, h3, -⟩ := nsh_ok hJ
  refine pfF_none _ _ _ h3 (fun j hj => ?_)
  cases e : (pS p).testBit j with
  | true => rfl
  | false =>
    have := ctN_pos (p := fun j => !(pS p).testBit j) hj (by rw [e]; rfl)
    unfold plM at h
    omega
/-- the class's cells hold it -/
def plC (t : mSt) (p : plP) (s : mSt) : Prop := K t s ∧ (s 135 3 = nn (jnN t) ∧ (∀ i, i < jnN t → s 136 i = nn (jI t i)) ∧ ∀ i, i < jnN t → s 137 i = wgV t i) ∧ (∀ j, j < nsh t → s 162 j = pX p j ∧ s 163 j = pY p j ∧ s 164 j = pR p j ∧ s 165 j = pF p j) ∧ s 135 18 = nn ((2 ^ jnN t - 1) ^^^ pD p) ∧ s 135 19 = pC p
theorem full_lt {n : Nat} : 2 ^ n - 1 < 2 ^ n := by have := Nat.two_pow_pos n; omega
theorem rest_lt (h7 : jnN t ≤ 7) {p : plP} (h : plG t p) : (2 ^ jnN t - 1) ^^^ pD p < 256 := by
  have h1 := Nat.xor_lt_two_pow (full_lt (n := jnN t)) h.2.2
  have h2 := pow_le (n := jnN t) (by omega)
  omega
theorem rest_bit {p : plP} {k : Nat} (hk : k < jnN t) : ((2 ^ jnN t - 1) ^^^ pD p).testBit k = !(pD p).testBit k := by
  rw [Nat.testBit_xor, Nat.testBit_two_pow_sub_one, decide_eq_true hk, Bool.true_xor]
theorem firstC (hJ : J t) {p : plP} (hG : plG t p) (hC : plC t p s) : me_firstFree s (nn (pS p)) = rI (if pJ0 t p = 3 then -1 else nn (pJ0 t p)) s := by
  obtain ⟨en, h3, ei⟩ := nsh_ok hJ
  obtain ⟨hK, -, hr, -⟩ := hC
  have hS : pS p < 8 := hG.2.1
  rw [me_firstFree_eq]
  obtain ⟨-, e1, -⟩ := loopS (σ := Unit) (fun _ n => me_firstFree_4 s (nn (pS p)) (if pfF (pF p) (pS p) n = 3 then -1 else nn (pfF (pF p) (pS p) n)) (nn n)) (nsh t) (fun _ _ => True) (i0 := 0) (s0 := ()) (fun n _ hn _ => by
    show ∃ s', me_firstFree_4 s (nn (pS p)) (if pfF (pF p) (pS p) n = 3 then -1 else nn (pfF (pF p) (pS p) n)) (nn n) = me_firstFree_4 s (nn (pS p)) (if pfF (pF p) (pS p) (n + 1) = 3 then -1 else nn (pfF (pF p) (pS p) (n + 1))) (nn (n + 1)) ∧ True
    refine ⟨(), ?_, trivial⟩
    have hok := pfF_ok (pF p) (pS p) n (by omega)
    have eN : pfF (pF p) (pS p) (n + 1) = if (pS p).testBit n = true then pfF (pF p) (pS p) n else if pfF (pF p) (pS p) n = 3 then n else if pF p (pfF (pF p) (pS p) n) ≤ pF p n then pfF (pF p) (pS p) n else n := rfl
    rw [me_firstFree_4_eq s (nn (pS p)) _ (nn n), K_at hK 129 rfl, en, if_neg (nle hn (by omega)), me_firstFree_28_eq, me_firstFree_28_eq, nn_s, eN]
    cases e : (pS p).testBit n with
    | true =>
      rw [if_neg (fun w => by rw [(bis0 (by omega) (by omega)).mp w] at e; cases e), if_pos rfl, if_pos rfl]
    | false =>
      rw [if_pos ((bis0 (by omega) (by omega)).mpr e), if_neg (show ¬ (1 : Int32) = 0 by decide), if_neg (show ¬ false = true by decide)]
      by_cases c : pfF (pF p) (pS p) n = 3
      · rw [if_pos c, if_pos c, if_pos (by decide), if_neg (show ¬ n = 3 by omega)]
      · rcases hok with hok | ⟨o1, o2⟩
        · exact absurd hok c
        · have q1 := (hr n hn).2.2.2
          have q2 := (hr _ (show pfF (pF p) (pS p) n < nsh t by omega)).2.2.2
          rw [if_neg c, if_neg c, if_neg (show ¬ nn (pfF (pF p) (pS p) n) < 0 from nlt (j := 0) (by omega) (by omega)), nn_b (i := n) (n := 3) (by omega) (by decide), nn_b (i := pfF (pF p) (pS p) n) (n := 3) (by omega) (by decide), gd_t, gd_t, nn_n (by omega), nn_n (by omega), q1, q2]
          by_cases d : pF p (pfF (pF p) (pS p) n) ≤ pF p n
          · rw [if_pos d, if_pos d, if_neg c]
          · rw [if_neg d, if_neg d, if_neg (show ¬ n = 3 by omega)]) (by omega) trivial
  have e1 : me_firstFree_4 s (nn (pS p)) (-1) 0 = me_firstFree_4 s (nn (pS p)) (if pfF (pF p) (pS p) (nsh t) = 3 then -1 else nn (pfF (pF p) (pS p) (nsh t))) (nn (nsh t)) := e1
  rw [e1, me_firstFree_4_eq, K_at hK 129 rfl, en, if_pos (yle (Nat.le_refl _) (by omega))]
  rfl
theorem soonC (hJ : J t) (h7 : jnN t ≤ 7) {p : plP} (hG : plG t p) (hC : plC t p s) {j : Nat} (hj : j < nsh t) : me_soonestFor s (nn j) = rI (if psJ (pcB t p j) (phV t p j) (jnN t) = 9 then -1 else nn (psJ (pcB t p j) (phV t p j) (jnN t))) s := by
  obtain ⟨en, h3, ei⟩ := nsh_ok hJ
  obtain ⟨hK, ⟨w1, w2, w3⟩, hr, h18, h19⟩ := hC
  obtain ⟨r1, r2, r3, r4⟩ := hr j hj
  have hrl := rest_lt h7 hG
  have hbx := hG.1 j
  rw [me_soonestFor_eq]
  obtain ⟨-, e1, -⟩ := loopS (σ := Unit) (fun _ n => me_soonestFor_8 s (nn j) (if psJ (pcB t p j) (phV t p j) n = 9 then -1 else nn (psJ (pcB t p j) (phV t p j) n)) (if psJ (pcB t p j) (phV t p j) n = 9 then 2147483647 else phV t p j (psJ (pcB t p j) (phV t p j) n)) (nn n)) (jnN t) (fun _ _ => True) (i0 := 0) (s0 := ()) (fun n _ hn _ => by
    refine ⟨(), ?_, trivial⟩
    have hb := jI_lt hn
    obtain ⟨-, hb8, -⟩ := nbr_ok hJ
    have eN : psJ (pcB t p j) (phV t p j) (n + 1) = if pcB t p j n = true ∧ (psJ (pcB t p j) (phV t p j) n = 9 ∨ phV t p j n < phV t p j (psJ (pcB t p j) (phV t p j) n)) then n else psJ (pcB t p j) (phV t p j) n := rfl
    have hh := hr_bd (HB_of hJ hb) hbx.1 hbx.2
    have hlt : ¬ (2147483647 : Int32) ≤ phV t p j n := by
      have : (phV t p j n).toInt ≤ 237 := hh.2
      have e : (2147483647 : Int32).toInt = 2147483647 := rfl
      rw [Int32.le_iff_toInt_le]; omega
    generalize hQ : psJ (pcB t p j) (phV t p j) n = Q at *
    rw [eN]
    have k83 : ∀ (f g : Bool) (x2 x3 : Int32), me_soonestFor_83 s (nn j) x2 x3 (nn n) (bi f) (bi g) = if f = true then (if g = true then (if x3 ≤ phV t p j n then me_soonestFor_8 s (nn j) x2 x3 (nn (n + 1)) else me_soonestFor_8 s (nn j) (nn n) (phV t p j n) (nn (n + 1))) else me_soonestFor_8 s (nn j) x2 x3 (nn (n + 1))) else me_soonestFor_8 s (nn j) x2 x3 (nn (n + 1)) := fun f g x2 x3 => by
      rw [me_soonestFor_83_eq, nn_b (i := n) (n := 7) (by omega) (by decide), gd_t, nn_b (i := j) (n := 3) (by omega) (by decide), gd_t, gd_t, nn_n (by omega), nn_n (by omega), w2 n hn, r1, r2, hrCK hJ hK hb, bI_rI, bi_if, bi_if, nn_s]
      rfl
    have k35 : ∀ (f : Bool) (x2 x3 : Int32), me_soonestFor_35 s (nn j) x2 x3 (nn n) (bi f) = me_soonestFor_83 s (nn j) x2 x3 (nn n) (bi f) (bi (lvB t j (jI t n) && !decide (pR p j < rlV t (jI t n)))) := fun f x2 x3 => by
      rw [me_soonestFor_35_eq, nn_b (i := n) (n := 7) (by omega) (by decide), nn_b (i := j) (n := 3) (by omega) (by decide)]
      simp only [gd_t]
      rw [nn_n (by omega), w2 n hn, lvCK hJ hK hb (by omega), bI_rI, bi_if, w2 n hn, rlCK hJ hK hb, bI_rI, nn_n (by omega), r3]
      cases lvB t j (jI t n) with
      | false => rw [if_neg (by decide)]; rfl
      | true =>
        rw [if_pos rfl]
        by_cases w : pR p j < rlV t (jI t n)
        · rw [if_pos w, decide_eq_true w]; rfl
        · rw [if_neg w, decide_eq_false w]; rfl
    have k8 : ∀ (x2 x3 : Int32), me_soonestFor_8 s (nn j) x2 x3 (nn n) = me_soonestFor_35 s (nn j) x2 x3 (nn n) (bi (!(pD p).testBit n)) := fun x2 x3 => by
      rw [me_soonestFor_8_eq, w1, if_neg (nle hn (by omega)), h18]
      have hbit := rest_bit (t := t) (p := p) hn
      cases e : (pD p).testBit n with
      | true =>
        rw [e] at hbit
        rw [if_neg (fun w => by rw [(bis1 hrl (by omega)).mp w] at hbit; cases hbit)]; rfl
      | false =>
        rw [e] at hbit
        rw [if_pos ((bis1 hrl (by omega)).mpr hbit)]; rfl
    rw [k8, k35, k83]
    have ecd : pcB t p j n = (!(pD p).testBit n && (lvB t j (jI t n) && !decide (pR p j < rlV t (jI t n)))) := rfl
    by_cases W : pcB t p j n = true ∧ (Q = 9 ∨ phV t p j n < phV t p j Q)
    · have W1 := W.1
      rw [ecd, Bool.and_eq_true] at W1
      rw [if_pos W, if_neg (show ¬ n = 9 by omega), if_neg (show ¬ n = 9 by omega), if_pos W1.1, if_pos W1.2]
      rcases W.2 with c | d
      · rw [if_pos c, if_pos c, if_neg hlt]
      · by_cases c : Q = 9
        · rw [if_pos c, if_pos c, if_neg hlt]
        · rw [if_neg c, if_neg c, if_neg (Int32.not_le.mpr d)]
    · rw [if_neg W]
      by_cases f : (!(pD p).testBit n) = true
      · rw [if_pos f]
        by_cases g : (lvB t j (jI t n) && !decide (pR p j < rlV t (jI t n))) = true
        · rw [if_pos g]
          have hcd : pcB t p j n = true := by rw [ecd, f, g]; rfl
          have c : ¬ Q = 9 := fun c => W ⟨hcd, Or.inl c⟩
          have d : ¬ phV t p j n < phV t p j Q := fun d => W ⟨hcd, Or.inr d⟩
          rw [if_neg c, if_neg c, if_pos (Int32.not_lt.mp d)]
        · rw [if_neg g]
      · rw [if_neg f]) (by omega) trivial
  have e1 : me_soonestFor_8 s (nn j) (-1) 2147483647 0 = me_soonestFor_8 s (nn j) (if psJ (pcB t p j) (phV t p j) (jnN t) = 9 then -1 else nn (psJ (pcB t p j) (phV t p j) (jnN t))) (if psJ (pcB t p j) (phV t p j) (jnN t) = 9 then 2147483647 else phV t p j (psJ (pcB t p j) (phV t p j) (jnN t))) (nn (jnN t)) := e1
  rw [e1, me_soonestFor_8_eq, w1, if_pos (yle (Nat.le_refl _) (by omega))]
end PLN
