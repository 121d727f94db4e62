/-! the least row of lines -/
def sk (P : Nat → Bool) : Nat → Nat → Nat
  | 0, i => i
  | f + 1, i => if P i = true then i else sk P f (i + 1)
theorem sk_eq {P : Nat → Bool} : ∀ (f i l : Nat), i ≤ l → l < i + f → P l = true → (∀ j, i ≤ j → j < l → P j = false) → sk P f i = l := by
  intro f
  induction f with
  | zero => intro i l h1 h2; omega
  | succ f ih =>
    intro i l h1 h2 h3 h4
    show (if P i = true then i else sk P f (i + 1)) = l
    by_cases c : P i = true
    · rw [if_pos c]
      by_cases e : i = l
      · exact e
      · rw [h4 i (Nat.le_refl _) (by omega)] at c; cases c
    · rw [if_neg c]
      have : i ≠ l := fun e => c (by rw [e]; exact h3)
      exact ih (i + 1) l (by omega) (by omega) h3 (fun j q1 q2 => h4 j (by omega) q2)
theorem sk_ok {P : Nat → Bool} {n : Nat} (h : ∃ l, l < n ∧ P l = true) : sk P n 0 < n ∧ P (sk P n 0) = true ∧ ∀ j, j < sk P n 0 → P j = false := by
  rcases first_bad (P := fun l => P l = false) n with hall | ⟨d, d1, d2, d3⟩
  · obtain ⟨l, h1, h2⟩ := h
    rw [hall l h1] at h2
    cases h2
  · have hd : P d = true := by cases e : P d with
      | true => rfl
      | false => exact absurd e d2
    have := sk_eq n 0 d (by omega) (by omega) hd (fun j _ q => d3 j q)
    rw [this]
    exact ⟨d1, hd, d3⟩
noncomputable def tgP (E : Nat → Nat → Nat → Prop) (a : Nat → Nat) (tgt c l v : Nat) : Bool := @decide (∃ u x, E l v u ∧ mc E a tgt c u x ∧ mc E a tgt c v (x + (c * a l + 1))) (Classical.propDecidable _)
theorem tgP_iff {E : Nat → Nat → Nat → Prop} {a : Nat → Nat} {tgt c l v : Nat} : tgP E a tgt c l v = true ↔ ∃ u x, E l v u ∧ mc E a tgt c u x ∧ mc E a tgt c v (x + (c * a l + 1)) := ⟨fun h => @of_decide_eq_true _ (Classical.propDecidable _) h, fun h => @decide_eq_true _ (Classical.propDecidable _) h⟩
def otN (t : mSt) (l v : Nat) : Nat := if frN t l = v then toN t l else frN t l
theorem ot_of {t : mSt} (hJ : J t) {op : Nat → Bool} {l v u : Nat} (h : edE t op l v u) : otN t l v = u := by
  obtain ⟨h1, -, h2⟩ := h
  obtain ⟨-, -, -, -, -, -, q7⟩ := ft_ok hJ h1
  unfold otN
  rcases h2 with ⟨e1, e2⟩ | ⟨e1, e2⟩
  · rw [if_pos e1, e2]
  · rw [if_neg (fun q => q7 (by rw [q, e1])), e2]
def wyL (P : Nat → Nat → Bool) (ot : Nat → Nat → Nat) (ne tgt : Nat) : Nat → Nat → List Nat
  | 0, _ => []
  | f + 1, v => if v = tgt then [] else sk (fun l => P l v) ne 0 :: wyL P ot ne tgt f (ot (sk (fun l => P l v) ne 0) v)
def wyE (P : Nat → Nat → Bool) (ot : Nat → Nat → Nat) (ne tgt : Nat) : Nat → Nat → Nat
  | 0, v => v
  | f + 1, v => if v = tgt then v else wyE P ot ne tgt f (ot (sk (fun l => P l v) ne 0) v)
section PTH
variable {t s : mSt} {op : Nat → Bool} {a : Nat → Nat} {c tgt : Nat}
/-- one step of a way -/
theorem tg_next (hJ : J t) {v x : Nat} (hm : mc (edE t op) a tgt c v x) (hv : v ≠ tgt) : ∃ l u y, sk (fun l => tgP (edE t op) a tgt c l v) (nln t) 0 = l ∧ l < nln t ∧ tgP (edE t op) a tgt c l v = true ∧ (∀ j, j < l → tgP (edE t op) a tgt c j v = false) ∧ otN t l v = u ∧ u < nld t ∧ edE t op l v u ∧ mc (edE t op) a tgt c u y ∧ x = y + (c * a l + 1) := by
  obtain ⟨l0, u0, y0, he0, hy0, e0⟩ := mc_step hm hv
  have hex : ∃ l, l < nln t ∧ tgP (edE t op) a tgt c l v = true := ⟨l0, he0.1, tgP_iff.mpr ⟨u0, y0, he0, hy0, by rw [← e0]; exact hm⟩⟩
  obtain ⟨h1, h2, h3⟩ := sk_ok hex
  obtain ⟨u, y, he, hy, hv2⟩ := tgP_iff.mp h2
  exact ⟨_, u, y, rfl, h1, h2, h3, ot_of hJ he, edE_b hJ _ _ _ he, he, hy, mc_un hm hv2⟩
theorem way_end (hJ : J t) : ∀ (f v x : Nat), v < nld t → mc (edE t op) a tgt c v x → ctN (fun u => @decide (∃ y, y < x ∧ mc (edE t op) a tgt c u y) (Classical.propDecidable _)) (nld t) ≤ f → wyE (tgP (edE t op) a tgt c) (otN t) (nln t) tgt f v = tgt := by
  intro f
  induction f with
  | zero =>
    intro v x hv hm hc
    show v = tgt
    by_cases e : v = tgt
    · exact e
    · obtain ⟨l, u, y, -, -, -, -, -, hu, -, hy, ex⟩ := tg_next hJ hm e
      have := ctN_pos (p := fun u => @decide (∃ y, y < x ∧ mc (edE t op) a tgt c u y) (Classical.propDecidable _)) hu (@decide_eq_true _ (Classical.propDecidable _) ⟨y, by omega, hy⟩)
      omega
  | succ f ih =>
    intro v x hv hm hc
    show (if v = tgt then v else wyE (tgP (edE t op) a tgt c) (otN t) (nln t) tgt f (otN t (sk (fun l => tgP (edE t op) a tgt c l v) (nln t) 0) v)) = tgt
    by_cases e : v = tgt
    · rw [if_pos e]; exact e
    · rw [if_neg e]
      obtain ⟨l, u, y, e1, -, -, -, e2, hu, -, hy, ex⟩ := tg_next hJ hm e
      rw [e1, e2]
      refine ih u y hu hy ?_
      have := ctN_lt (p := fun u => @decide (∃ y', y' < y ∧ mc (edE t op) a tgt c u y') (Classical.propDecidable _)) (q := fun u => @decide (∃ y, y < x ∧ mc (edE t op) a tgt c u y) (Classical.propDecidable _)) (n := nld t) (i := u) (fun i _ hp => by
        obtain ⟨z, z1, z2⟩ := @of_decide_eq_true _ (Classical.propDecidable _) hp
        exact @decide_eq_true _ (Classical.propDecidable _) ⟨z, by omega, z2⟩) hu (@decide_eq_false _ (Classical.propDecidable _) (fun ⟨z, z1, z2⟩ => by have := mc_un hy z2; omega)) (@decide_eq_true _ (Classical.propDecidable _) ⟨y, by omega, hy⟩)
      omega
theorem way_end7 (hJ : J t) {v x : Nat} (hv : v < nld t) (hm : mc (edE t op) a tgt c v x) : wyE (tgP (edE t op) a tgt c) (otN t) (nln t) tgt 7 v = tgt := by
  obtain ⟨-, h8, -⟩ := nld_ok hJ
  refine way_end hJ 7 v x hv hm ?_
  have := ctN_lt (p := fun u => @decide (∃ y, y < x ∧ mc (edE t op) a tgt c u y) (Classical.propDecidable _)) (q := fun _ => true) (n := nld t) (i := v) (fun _ _ _ => rfl) hv (@decide_eq_false _ (Classical.propDecidable _) (fun ⟨z, z1, z2⟩ => by have := mc_un hm z2; omega)) rfl
  have := ctN_le (fun _ => true) (nld t)
  omega
/-- what a row of least prices says of a line -/
theorem tg_iff (hJ : J t) {INF : Nat} {d : Nat → Nat} (hD : rlD (edE t op) a tgt c (nld t) INF d) (hI : ∀ v x, v < nld t → mc (edE t op) a tgt c v x → x < INF) {v x l : Nat} (hv : v < nld t) (hm : mc (edE t op) a tgt c v x) (hl : l < nln t) (ho : op l = true) (hi : frN t l = v ∨ toN t l = v) : d (otN t l v) + (c * a l + 1) = d v ↔ tgP (edE t op) a tgt c l v = true := by
  have he : edE t op l v (otN t l v) := by
    refine ⟨hl, ho, ?_⟩
    unfold otN
    by_cases e : frN t l = v
    · rw [if_pos e]; exact Or.inl ⟨e, rfl⟩
    · rw [if_neg e]
      rcases hi with h | h
      · exact absurd h e
      · exact Or.inr ⟨h, rfl⟩
  have hu := edE_b hJ _ _ _ he
  have dv := (hD v hv).1 x hm (hI v x hv hm)
  have xI := hI v x hv hm
  rw [tgP_iff]
  constructor
  · intro h
    by_cases q : ∃ y, mc (edE t op) a tgt c (otN t l v) y
    · obtain ⟨y, hy⟩ := q
      have du := (hD _ hu).1 y hy (hI _ y hu hy)
      refine ⟨_, y, he, hy, ?_⟩
      have : y + (c * a l + 1) = x := by omega
      rw [this]; exact hm
    · have du := (hD _ hu).2 (fun y hy => q ⟨y, hy⟩)
      omega
  · rintro ⟨u, y, hE, hy, hv2⟩
    have e1 := ot_of hJ hE
    have du := (hD _ hu).1 y (by rw [e1]; exact hy) (hI _ y hu (by rw [e1]; exact hy))
    have := mc_un hm hv2
    omega
/-- the class's step -/
theorem leastC (hJ : J t) (hK : K t s) (hp : ∀ l, l < nln t → s 50 l = if op l = true then nn (c * a l + 1) else 0) (hw : ∀ l, c * a l + 1 ≤ 200000) {d : Nat → Nat} (hD : rlD (edE t op) a tgt c (nld t) 268435456 d) (hd : ∀ v, v < nld t → s 51 v = nn (d v) ∧ d v ≤ 268435456) (hI : ∀ v x, v < nld t → mc (edE t op) a tgt c v x → x < 268435456) {v x : Nat} (hv : v < nld t) (hm : mc (edE t op) a tgt c v x) (hne : v ≠ tgt) : tr_leastStep s (nn v) = rI (nn (sk (fun l => tgP (edE t op) a tgt c l v) (nln t) 0)) s := by
  obtain ⟨el, h12, -⟩ := nln_ok hJ
  obtain ⟨ed, h8, -⟩ := nld_ok hJ
  obtain ⟨l0, u, y, e1, hl0, ht0, hb0, e2, hu, he, hy, ex⟩ := tg_next hJ hm hne
  rw [e1, tr_leastStep_eq]
  have key := loopE (σ := Unit) (fun _ i => tr_leastStep_2 s (nn v) (nn i)) (l0 + 1) (fun i _ => ∀ j, j < i → tgP (edE t op) a tgt c j v = false) (fun o => o = rI (nn l0) s) (i0 := 0) (s0 := ()) (fun i _ hi hJ' => by
    show (∃ s', tr_leastStep_2 s (nn v) (nn i) = tr_leastStep_2 s (nn v) (nn (i + 1)) ∧ _) ∨ tr_leastStep_2 s (nn v) (nn i) = _
    have hin : i < nln t := by omega
    obtain ⟨q1, q2, q3, q4, q5, q6, q7⟩ := ft_ok hJ hin
    have next : ∀ b : Bool, (b = true ↔ tgP (edE t op) a tgt c i v = true) → (tr_leastStep_2 s (nn v) (nn i) = if b = true then rI (nn i) s else tr_leastStep_2 s (nn v) (nn (i + 1))) → (∃ s' : Unit, tr_leastStep_2 s (nn v) (nn i) = tr_leastStep_2 s (nn v) (nn (i + 1)) ∧ ∀ j, j < i + 1 → tgP (edE t op) a tgt c j v = false) ∨ tr_leastStep_2 s (nn v) (nn i) = rI (nn l0) s := fun b hb hs => by
      by_cases cb : b = true
      · right
        rw [hs, if_pos cb]
        have : i = l0 := by
          by_cases w : i = l0
          · exact w
          · have := hb0 i (by omega)
            rw [hb.mp cb] at this
            cases this
        rw [this]
      · left
        refine ⟨(), by rw [hs, if_neg cb], fun j hj => ?_⟩
        by_cases w : j = i
        · rw [w]
          cases e : tgP (edE t op) a tgt c i v with
          | false => rfl
          | true => exact absurd (hb.mpr e) cb
        · exact hJ' j (by omega)
    have e50 := hp i hin
    have e28 : s 28 i = nn (frN t i) := by rw [K_at hK 28 rfl]; exact q5
    have e29 : s 29 i = nn (toN t i) := by rw [K_at hK 29 rfl]; exact q6
    have st : tr_leastStep_2 s (nn v) (nn i) = if s 50 i = 0 then tr_leastStep_35 s (nn v) (nn i) (-1) else bI (ne_otherEnd s (nn i) (nn v)) fun v1 s1 => tr_leastStep_35 s1 (nn v) (nn i) v1 := by
      rw [tr_leastStep_2_eq, K_at hK 25 rfl, el, if_neg (nle hin (by omega)), nn_b (i := i) (n := 12) (by omega) (by decide), gd_t, nn_n (by omega)]
    have no : tr_leastStep_35 s (nn v) (nn i) (-1) = tr_leastStep_2 s (nn v) (nn (i + 1)) := by
      rw [tr_leastStep_35_eq, if_pos (by decide), nn_s]
    by_cases o : op i = true
    · rw [if_pos o] at e50
      have hwi := hw i
      rw [e50, if_neg (show ¬ nn (c * a i + 1) = 0 from fun w => by have := (nn_eq (j := 0) (by omega) (by omega)).mp w; omega), ne_otherEnd_eq, nn_b (i := i) (n := 12) (by omega) (by decide), nn_n (by omega), e28, e29] at st
      simp only [gd_t] at st
      have yes : ∀ u, u < nld t → otN t i v = u → (frN t i = v ∨ toN t i = v) → tr_leastStep_35 s (nn v) (nn i) (nn u) = if decide (d u + (c * a i + 1) = d v) = true then rI (nn i) s else tr_leastStep_2 s (nn v) (nn (i + 1)) := fun u hu' _ _ => by
        have b1 := hd u hu'
        have b2 := hd v hv
        rw [tr_leastStep_35_eq, if_neg (show ¬ nn u < 0 from nlt (j := 0) (by omega) (by omega)), nn_b (i := u) (n := 8) (by omega) (by decide), nn_b (i := i) (n := 12) (by omega) (by decide), nn_b (i := v) (n := 8) (by omega) (by decide), gd_t, gd_t, gd_t, nn_n (by omega), nn_n (by omega), nn_n (by omega), b1.1, b2.1, e50, nn_a, nn_s]
        by_cases w : d u + (c * a i + 1) = d v
        · rw [if_pos (by rw [w]), if_pos (decide_eq_true w)]
        · rw [if_neg (fun w' => w ((nn_eq (by omega) (by omega)).mp w')), if_neg (fun w' => w (of_decide_eq_true w'))]
      by_cases c1 : frN t i = v
      · have ho : otN t i v = toN t i := if_pos c1
        rw [if_pos (by rw [c1]), bI_rI, yes (toN t i) q4 ho (Or.inl c1)] at st
        refine next _ ?_ st
        rw [decide_eq_true_iff, ← ho]
        exact tg_iff hJ hD hI hv hm hin o (Or.inl c1)
      · rw [if_neg (fun w => c1 ((nn_eq (by omega) (by omega)).mp w))] at st
        have ho : otN t i v = frN t i := if_neg c1
        by_cases c2 : toN t i = v
        · rw [if_pos (by rw [c2]), bI_rI, yes (frN t i) q3 ho (Or.inr c2)] at st
          refine next _ ?_ st
          rw [decide_eq_true_iff, ← ho]
          exact tg_iff hJ hD hI hv hm hin o (Or.inr c2)
        · rw [if_neg (fun w => c2 ((nn_eq (by omega) (by omega)).mp w)), bI_rI, no] at st
          refine next false ⟨fun w => (by cases w), fun w => ?_⟩ (by rw [st, if_neg (by decide)])
          obtain ⟨u', x', hE, -⟩ := tgP_iff.mp w
          rcases hE.2.2 with ⟨w1, -⟩ | ⟨w1, -⟩
          · exact absurd w1 c1
          · exact absurd w1 c2
    · rw [if_neg o] at e50
      rw [e50, if_pos rfl, no] at st
      refine next false ⟨fun w => (by cases w), fun w => ?_⟩ (by rw [st, if_neg (by decide)])
      obtain ⟨u', x', hE, -⟩ := tgP_iff.mp w
      exact absurd hE.2.1 o) (by omega) (fun j hj => by omega)
  rcases key with ⟨-, -, g2⟩ | g
  · have := g2 l0 (by omega)
    rw [ht0] at this
    cases this
  · exact g
end PTH
