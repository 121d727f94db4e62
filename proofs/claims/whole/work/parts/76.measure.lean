/-! the class's least prices -/
def edE (t : mSt) (op : Nat → Bool) (l v u : Nat) : Prop := l < nln t ∧ op l = true ∧ ((frN t l = v ∧ toN t l = u) ∨ (toN t l = v ∧ frN t l = u))
theorem edE_b {t : mSt} (hJ : J t) {op : Nat → Bool} : ∀ l v u, edE t op l v u → u < nld t := fun l v u h => by
  obtain ⟨h1, -, h2⟩ := h
  obtain ⟨-, -, q3, q4, -⟩ := ft_ok hJ h1
  rcases h2 with ⟨-, h⟩ | ⟨-, h⟩ <;> omega
section MEA
variable {t s : mSt} {op : Nat → Bool} {a : Nat → Nat} {c tgt : Nat}
theorem fillA (v : Int32) (s : mSt) : ∃ s', ay_fill_51 s v = rV s' ∧ Ch [51] [] s s' ∧ ∀ i, i < 8 → s' 51 i = v := by
  rw [ay_fill_51_eq]
  obtain ⟨s', e1, e2, e3⟩ := loopS (σ := mSt) (fun s1 i => ay_fill_51_5 s1 v (nn i) 8) 8 (fun i s1 => Ch [51] [] s s1 ∧ ∀ j, j < i → s1 51 j = v) (i0 := 0) (s0 := s) (fun i s1 hi hI => by
    show ∃ s', ay_fill_51_5 s1 v (nn i) 8 = ay_fill_51_5 s' v (nn (i + 1)) 8 ∧ _
    obtain ⟨c1, c2⟩ := hI
    refine ⟨wr s1 51 i v, ?_, Ch_w rfl rfl c1, fun j hj => ?_⟩
    · rw [ay_fill_51_5_eq s1 v (nn i) 8, if_neg (show ¬ (8 : Int32) ≤ nn i from nle (i := 8) hi (by omega)), nn_b hi (by decide), gd_t, nn_n (by omega), nn_s]
    · rw [wr_at]
      by_cases e : j = i
      · rw [e, upd_at]
      · rw [upd_ne e]; exact c2 j (by omega)) (by omega) ⟨Ch_rf, fun j hj => by omega⟩
  have e1 : ay_fill_51_5 s v (nn 0) 8 = ay_fill_51_5 s' v (nn 8) 8 := e1
  refine ⟨s', e1.trans ?_, e2, e3⟩
  rw [ay_fill_51_5_eq, if_pos (show (8 : Int32) ≤ nn 8 from yle (i := 8) (by omega) (by omega))]
/-- one turn of the class over its lines -/
theorem turnC (hJ : J t) (hK : K t s) (hp : ∀ l, l < nln t → s 50 l = if op l = true then nn (c * a l + 1) else 0) (hw : ∀ l, c * a l + 1 ≤ 200000) {d0 : Nat → Nat} (hd : ∀ v, v < nld t → s 51 v = nn (d0 v)) (hR : rlR (edE t op) a tgt c (nld t) 268435456 d0) (p : Int32) : ∃ s' b d, tr_measureTo_35 s 0 p 0 = tr_measureTo_20 s' b (p + 1) ∧ Ch [51] [] s s' ∧ (∀ v, v < nld t → s' 51 v = nn (d v)) ∧ rlR (edE t op) a tgt c (nld t) 268435456 d ∧ (∀ l v u, edE t op l v u → d v ≤ d0 u + (c * a l + 1)) ∧ ((b = 0 ∧ d = d0) ∨ b = 1) := by
  obtain ⟨el, h12, -⟩ := nln_ok hJ
  obtain ⟨ed, h8, -⟩ := nld_ok hJ
  have hb := edE_b hJ (op := op)
  obtain ⟨⟨s', b, d⟩, e1, e2, e3, e4, e5, e6, e7⟩ := loopS (σ := mSt × Int32 × (Nat → Nat)) (fun q i => tr_measureTo_35 q.1 q.2.1 p (nn i)) (nln t) (fun i q => Ch [51] [] s q.1 ∧ (∀ v, v < nld t → q.1 51 v = nn (q.2.2 v)) ∧ rlR (edE t op) a tgt c (nld t) 268435456 q.2.2 ∧ (∀ v, q.2.2 v ≤ d0 v) ∧ (∀ l v u, l < i → edE t op l v u → q.2.2 v ≤ d0 u + (c * a l + 1)) ∧ ((q.2.1 = 0 ∧ q.2.2 = d0) ∨ q.2.1 = 1)) (i0 := 0) (s0 := (s, 0, d0)) (fun i q hi hI => by
    obtain ⟨s1, b, d⟩ := q
    show ∃ q' : mSt × Int32 × (Nat → Nat), tr_measureTo_35 s1 b p (nn i) = tr_measureTo_35 q'.1 q'.2.1 p (nn (i + 1)) ∧ _
    obtain ⟨i1, i2, i3, i4, i5, i6⟩ := hI
    have i1 : Ch [51] [] s s1 := i1
    have i2 : ∀ v, v < nld t → s1 51 v = nn (d v) := i2
    have i3 : rlR (edE t op) a tgt c (nld t) 268435456 d := i3
    have i4 : ∀ v, d v ≤ d0 v := i4
    have i5 : ∀ l v u, l < i → edE t op l v u → d v ≤ d0 u + (c * a l + 1) := i5
    have i6 : (b = 0 ∧ d = d0) ∨ b = 1 := i6
    have hK1 : K t s1 := K_ch i1 rfl rfl hK
    have e50 : s1 50 i = if op i = true then nn (c * a i + 1) else 0 := by rw [i1.1 50 rfl rfl]; exact hp i hi
    have e28 : s1 28 i = t 28 i := by rw [K_at hK1 28 rfl]
    have e29 : s1 29 i = t 29 i := by rw [K_at hK1 29 rfl]
    obtain ⟨q1, q2, q3, q4, q5, q6, q7⟩ := ft_ok hJ hi
    have dA := i2 _ q3
    have dB := i2 _ q4
    have bA := (i3.2 _ q3).1
    have bB := (i3.2 _ q4).1
    have hwi := hw i
    -- the invariant out of what one line does
    have fin : ∀ (d' : Nat → Nat), rlX (edE t op) a c i d d' → rlR (edE t op) a tgt c (nld t) 268435456 d' ∧ (∀ v, d' v ≤ d0 v) ∧ (∀ l v u, l < i + 1 → edE t op l v u → d' v ≤ d0 u + (c * a l + 1)) := fun d' hx => by
      refine ⟨rlX_R hb hx i3, fun v => by have := hx.1 v; have := i4 v; omega, fun l v u hl he => ?_⟩
      by_cases e : l = i
      · subst e
        have := hx.2.2 v u he
        have := i4 u
        omega
      · have := i5 l v u (by omega) he
        have := hx.1 v
        omega
    have lkA : (t 28 i).toNatClampNeg = frN t i := rfl
    have lkB : (t 29 i).toNatClampNeg = toN t i := rfl
    rw [tr_measureTo_35_eq s1 b p (nn i), K_at hK1 25 rfl, el, if_neg (nle hi (by omega)), nn_b (i := i) (n := 12) (by omega) (by decide), gd_t, nn_n (by omega), e50, nn_s]
    by_cases o : op i = true
    · rw [if_pos o, if_neg (show ¬ nn (c * a i + 1) = 0 from fun w => by have := (nn_eq (j := 0) (by omega) (by omega)).mp w; omega), e28, e29, q1, q2]
      simp only [gd_t]
      rw [lkA, lkB, dA, dB, nn_a, nn_a]
      have E1 : edE t op i (frN t i) (toN t i) := ⟨hi, o, Or.inl ⟨rfl, rfl⟩⟩
      have E2 : edE t op i (toN t i) (frN t i) := ⟨hi, o, Or.inr ⟨rfl, rfl⟩⟩
      by_cases c1 : d (toN t i) ≤ d (frN t i) + (c * a i + 1)
      · rw [if_pos (yle c1 (by omega))]
        by_cases c2 : d (frN t i) ≤ d (toN t i) + (c * a i + 1)
        · rw [if_pos (yle c2 (by omega))]
          obtain ⟨g1, g2, g3⟩ := fin d ⟨fun _ => Nat.le_refl _, fun _ => Or.inl rfl, fun v u he => by
            rcases he.2.2 with ⟨h1, h2⟩ | ⟨h1, h2⟩
            · rw [← h1, ← h2]; exact c2
            · rw [← h1, ← h2]; exact c1⟩
          exact ⟨(s1, b, d), rfl, i1, i2, g1, g2, g3, i6⟩
        · rw [if_neg (nle (by omega) (by omega))]
          obtain ⟨g1, g2, g3⟩ := fin (fun v => if v = frN t i then d (toN t i) + (c * a i + 1) else d v) ⟨fun v => by
            dsimp only
            by_cases e : v = frN t i
            · rw [if_pos e, e]; omega
            · rw [if_neg e]; exact Nat.le_refl _, fun v => by
            dsimp only
            by_cases e : v = frN t i
            · rw [if_pos e]
              exact Or.inr ⟨toN t i, by rw [e]; exact E1, rfl⟩
            · rw [if_neg e]; exact Or.inl rfl, fun v u he => by
            dsimp only
            rcases he.2.2 with ⟨h1, h2⟩ | ⟨h1, h2⟩
            · rw [← h1, ← h2, if_pos rfl]; exact Nat.le_refl _
            · rw [← h1, ← h2, if_neg (fun w => q7 w.symm)]; omega⟩
          refine ⟨(wr s1 51 (frN t i) (nn (d (toN t i) + (c * a i + 1))), 1, fun v => if v = frN t i then d (toN t i) + (c * a i + 1) else d v), rfl, Ch_w rfl rfl i1, fun v hv => ?_, g1, g2, g3, Or.inr rfl⟩
          show wr s1 51 (frN t i) (nn (d (toN t i) + (c * a i + 1))) 51 v = nn (if v = frN t i then d (toN t i) + (c * a i + 1) else d v)
          rw [wr_at]
          by_cases e : v = frN t i
          · rw [if_pos e, e, upd_at]
          · rw [if_neg e, upd_ne e]; exact i2 v hv
      · rw [if_neg (nle (by omega) (by omega))]
        obtain ⟨g1, g2, g3⟩ := fin (fun v => if v = toN t i then d (frN t i) + (c * a i + 1) else d v) ⟨fun v => by
          dsimp only
          by_cases e : v = toN t i
          · rw [if_pos e, e]; omega
          · rw [if_neg e]; exact Nat.le_refl _, fun v => by
          dsimp only
          by_cases e : v = toN t i
          · rw [if_pos e]
            exact Or.inr ⟨frN t i, by rw [e]; exact E2, rfl⟩
          · rw [if_neg e]; exact Or.inl rfl, fun v u he => by
          dsimp only
          rcases he.2.2 with ⟨h1, h2⟩ | ⟨h1, h2⟩
          · rw [← h1, ← h2, if_neg q7]; omega
          · rw [← h1, ← h2, if_pos rfl]; exact Nat.le_refl _⟩
        refine ⟨(wr s1 51 (toN t i) (nn (d (frN t i) + (c * a i + 1))), 1, fun v => if v = toN t i then d (frN t i) + (c * a i + 1) else d v), rfl, Ch_w rfl rfl i1, fun v hv => ?_, g1, g2, g3, Or.inr rfl⟩
        show wr s1 51 (toN t i) (nn (d (frN t i) + (c * a i + 1))) 51 v = nn (if v = toN t i then d (frN t i) + (c * a i + 1) else d v)
        rw [wr_at]
        by_cases e : v = toN t i
        · rw [if_pos e, e, upd_at]
        · rw [if_neg e, upd_ne e]; exact i2 v hv
    · rw [if_neg o, if_pos rfl]
      obtain ⟨g1, g2, g3⟩ := fin d ⟨fun _ => Nat.le_refl _, fun _ => Or.inl rfl, fun v u he => absurd he.2.1 o⟩
      exact ⟨(s1, b, d), rfl, i1, i2, g1, g2, g3, i6⟩) (by omega) ⟨Ch_rf, hd, hR, fun _ => Nat.le_refl _, fun l v u hl => by omega, Or.inl ⟨rfl, rfl⟩⟩
  have e1 : tr_measureTo_35 s 0 p 0 = tr_measureTo_35 s' b p (nn (nln t)) := e1
  have e2 : Ch [51] [] s s' := e2
  have hK1 : K t s' := K_ch e2 rfl rfl hK
  refine ⟨s', b, d, ?_, e2, e3, e4, fun l v u he => e6 l v u he.1 he, e7⟩
  rw [e1, tr_measureTo_35_eq, K_at hK1 25 rfl, el, if_pos (yle (Nat.le_refl _) (by omega))]
theorem measureC (hJ : J t) (hK : K t s) (hp : ∀ l, l < nln t → s 50 l = if op l = true then nn (c * a l + 1) else 0) (hw : ∀ l, c * a l + 1 ≤ 200000) (ht : tgt < nld t) : ∃ s', tr_measureTo s (nn tgt) = rV s' ∧ Ch [51] [] s s' ∧ ∃ d, rlD (edE t op) a tgt c (nld t) 268435456 d ∧ ∀ v, v < nld t → s' 51 v = nn (d v) ∧ d v ≤ 268435456 := by
  obtain ⟨ed, h8, -⟩ := nld_ok hJ
  have hb := edE_b hJ (op := op)
  obtain ⟨s0, f1, f2, f3⟩ := fillA 268435456 s
  obtain ⟨r1, r2⟩ := rl_first (E := edE t op) (a := a) (tgt := tgt) (c := c) (nl := nld t) (INF := 268435456)
  have start : tr_measureTo s (nn tgt) = tr_measureTo_20 (wr s0 51 tgt 0) 1 (nn 0) := by
    rw [tr_measureTo_eq, f1, bV_rV, nn_b (i := tgt) (n := 8) (by omega) (by decide), gd_t, nn_n (by omega)]
    rfl
  rw [start]
  have key := loopE (σ := mSt × (Nat → Nat)) (fun q p => tr_measureTo_20 q.1 1 (nn p)) 8 (fun p q => Ch [51] [] s q.1 ∧ (∀ v, v < nld t → q.1 51 v = nn (q.2 v)) ∧ rlR (edE t op) a tgt c (nld t) 268435456 q.2 ∧ rlP (edE t op) a tgt c (nld t) p q.2) (fun o => ∃ s', o = rV s' ∧ Ch [51] [] s s' ∧ ∃ d, rlD (edE t op) a tgt c (nld t) 268435456 d ∧ ∀ v, v < nld t → s' 51 v = nn (d v) ∧ d v ≤ 268435456) (i0 := 0) (s0 := (wr s0 51 tgt 0, fun v => if v = tgt then 0 else 268435456)) (fun p q hp8 hI => by
    obtain ⟨s1, d⟩ := q
    show (∃ q' : mSt × (Nat → Nat), tr_measureTo_20 s1 1 (nn p) = tr_measureTo_20 q'.1 1 (nn (p + 1)) ∧ _) ∨ ∃ s', tr_measureTo_20 s1 1 (nn p) = rV s' ∧ _
    obtain ⟨i1, i2, i3, i4⟩ := hI
    have i1 : Ch [51] [] s s1 := i1
    have i2 : ∀ v, v < nld t → s1 51 v = nn (d v) := i2
    have i3 : rlR (edE t op) a tgt c (nld t) 268435456 d := i3
    have i4 : rlP (edE t op) a tgt c (nld t) p d := i4
    have hK1 : K t s1 := K_ch i1 rfl rfl hK
    obtain ⟨s2, b, d', g1, g2, g3, g4, g5, g6⟩ := turnC hJ hK1 (fun l hl => by rw [i1.1 50 rfl rfl]; exact hp l hl) hw i2 i3 (nn p)
    have st : tr_measureTo_20 s1 1 (nn p) = tr_measureTo_20 s2 b (nn (p + 1)) := by
      rw [tr_measureTo_20_eq s1 1 (nn p), if_neg (by decide), if_neg (show ¬ (8 : Int32) ≤ nn p from nle (i := 8) hp8 (by omega)), g1, nn_s]
    rcases g6 with ⟨g6, g7⟩ | g6
    · right
      subst g6 g7
      refine ⟨s2, by rw [st, tr_measureTo_20_eq, if_pos rfl], Ch_tr i1 g2, d', rl_rest hb g4 g5, fun v hv => ⟨g3 v hv, (g4.2 v hv).1⟩⟩
    · left
      subst g6
      exact ⟨(s2, d'), st, Ch_tr i1 g2, g3, g4, rl_turn g4.1 hb i4 g5⟩) (by omega) ⟨Ch_w rfl rfl f2, fun v hv => by
        show wr s0 51 tgt 0 51 v = nn (if v = tgt then 0 else 268435456)
        rw [wr_at]
        by_cases e : v = tgt
        · rw [if_pos e, e, upd_at]; rfl
        · rw [if_neg e, upd_ne e]; exact f3 v (by omega), r1, r2⟩
  rcases key with ⟨⟨s2, d⟩, g1, g2, g3, g4, g5⟩ | ⟨s', g1, g2⟩
  · have g1 : tr_measureTo_20 (wr s0 51 tgt 0) 1 (nn 0) = tr_measureTo_20 s2 1 (nn 8) := g1
    refine ⟨s2, ?_, g2, d, rl_fin hb g4 g5 (by omega), fun v hv => ⟨g3 v hv, (g4.2 v hv).1⟩⟩
    rw [g1, tr_measureTo_20_eq, if_neg (by decide), if_pos (show (8 : Int32) ≤ nn 8 from yle (i := 8) (by omega) (by omega))]
  · exact ⟨s', g1, g2⟩
end MEA
