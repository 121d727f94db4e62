/-! the reference's ways -/
section FWY
variable {t s : mSt} {op : Nat → Bool} {a : Nat → Nat} {c tgt : Nat}
theorem otherM (hJ : J t) (hK : K t s) {l v : Nat} (hl : l < nln t) (hv : v < 8) : mo_other s (nn l) (nn v) = rI (if frN t l = v ∨ toN t l = v then nn (otN t l v) else -4) s := by
  obtain ⟨el, h12, -⟩ := nln_ok hJ
  obtain ⟨-, h8, -⟩ := nld_ok hJ
  obtain ⟨q1, q2, q3, q4, q5, q6, q7⟩ := ft_ok hJ hl
  obtain ⟨-, ⟨-, -, p3, p4, -⟩, -⟩ := id (J_N hJ)
  rw [mo_other_eq, nn_b (i := l) (n := 12) (by omega) (by decide), nn_n (by omega), K_at hK 186 rfl, K_at hK 187 rfl, p3, p4, q5, q6]
  simp only [gd_t]
  unfold otN
  by_cases c1 : frN t l = v
  · rw [if_pos (by rw [c1]), if_pos (Or.inl c1), if_pos c1]
  · rw [if_neg (fun w => c1 ((nn_eq (by omega) (by omega)).mp w))]
    by_cases c2 : toN t l = v
    · rw [if_pos (by rw [c2]), if_pos (Or.inr c2), if_neg c1]
    · rw [if_neg (fun w => c2 ((nn_eq (by omega) (by omega)).mp w)), if_neg (fun w => by rcases w with w | w; exact c1 w; exact c2 w)]
theorem turnM (hJ : J t) (hK : K t s) (hp : ∀ l, l < nln t → s 206 l = if op l = true then nn (c * a l + 1) else -1) (hw : ∀ l, c * a l + 1 ≤ 200000) {d0 : Nat → Nat} (hd : ∀ v, v < nld t → s 205 v = nn (d0 v)) (hR : rlR (edE t op) a tgt c (nld t) 1000000 d0) (q p : Int32) : ∃ s' d, mo_findWay_51 s q p 0 = mo_findWay_41 s' q (p + 1) ∧ Ch [205] [] s s' ∧ (∀ v, v < nld t → s' 205 v = nn (d v)) ∧ rlR (edE t op) a tgt c (nld t) 1000000 d ∧ (∀ l v u, edE t op l v u → d v ≤ d0 u + (c * a l + 1)) := by
  obtain ⟨el, h12, -⟩ := nln_ok hJ
  obtain ⟨ed, h8, -⟩ := nld_ok hJ
  have em3 := (J_N hJ).1.2.1.1
  obtain ⟨-, ⟨-, -, p3, p4, -⟩, -⟩ := id (J_N hJ)
  have hb := edE_b hJ (op := op)
  obtain ⟨⟨s', d⟩, e1, e2, e3, e4, e5, e6⟩ := loopS (σ := mSt × (Nat → Nat)) (fun r i => mo_findWay_51 r.1 q p (nn i)) (nln t) (fun i r => Ch [205] [] s r.1 ∧ (∀ v, v < nld t → r.1 205 v = nn (r.2 v)) ∧ rlR (edE t op) a tgt c (nld t) 1000000 r.2 ∧ (∀ v, r.2 v ≤ d0 v) ∧ (∀ l v u, l < i → edE t op l v u → r.2 v ≤ d0 u + (c * a l + 1))) (i0 := 0) (s0 := (s, d0)) (fun i r hi hI => by
    obtain ⟨s1, d⟩ := r
    show ∃ r' : mSt × (Nat → Nat), mo_findWay_51 s1 q p (nn i) = mo_findWay_51 r'.1 q p (nn (i + 1)) ∧ _
    obtain ⟨i1, i2, i3, i4, i5⟩ := hI
    have i1 : Ch [205] [] s s1 := i1
    have i2 : ∀ v, v < nld t → s1 205 v = nn (d v) := i2
    have i3 : rlR (edE t op) a tgt c (nld t) 1000000 d := i3
    have i4 : ∀ v, d v ≤ d0 v := i4
    have i5 : ∀ l v u, l < i → edE t op l v u → d v ≤ d0 u + (c * a l + 1) := i5
    have hK1 : K t s1 := K_ch i1 rfl rfl hK
    have e50 : s1 206 i = if op i = true then nn (c * a i + 1) else -1 := by rw [i1.1 206 rfl rfl]; exact hp i hi
    obtain ⟨q1, q2, q3, q4, q5, q6, q7⟩ := ft_ok hJ hi
    have e28 : s1 186 i = nn (frN t i) := by rw [K_at hK1 186 rfl, p3]; exact q5
    have e29 : s1 187 i = nn (toN t i) := by rw [K_at hK1 187 rfl, p4]; exact q6
    have dA := i2 _ q3
    have dB := i2 _ q4
    have bA := (i3.2 _ q3).1
    have bB := (i3.2 _ q4).1
    have hwi := hw i
    have fin : ∀ (d' : Nat → Nat), rlX (edE t op) a c i d d' → rlR (edE t op) a tgt c (nld t) 1000000 d' ∧ (∀ v, d' v ≤ d0 v) ∧ (∀ l v u, l < i + 1 → edE t op l v u → d' v ≤ d0 u + (c * a l + 1)) := fun d' hx => by
      refine ⟨rlX_R hb hx i3, fun v => by have := hx.1 v; have := i4 v; omega, fun l v u hl he => ?_⟩
      by_cases e : l = i
      · subst e
        have := hx.2.2 v u he
        have := i4 u
        omega
      · have := i5 l v u (by omega) he
        have := hx.1 v
        omega
    rw [mo_findWay_51_eq s1 q p (nn i), K_m hK1 3 rfl, em3, el, if_neg (nle hi (by omega)), nn_b (i := i) (n := 12) (by omega) (by decide), gd_t, gd_t, gd_t, gd_t, gd_t, nn_n (by omega), e50, nn_s]
    by_cases o : op i = true
    · have E1 : edE t op i (frN t i) (toN t i) := ⟨hi, o, Or.inl ⟨rfl, rfl⟩⟩
      have E2 : edE t op i (toN t i) (frN t i) := ⟨hi, o, Or.inr ⟨rfl, rfl⟩⟩
      rw [if_pos o, if_neg (show ¬ nn (c * a i + 1) < 0 from nlt (j := 0) (by omega) (by omega)), e28, e29, nn_b (i := frN t i) (n := 8) (by omega) (by decide), nn_b (i := toN t i) (n := 8) (by omega) (by decide)]
      simp only [gd_t]
      rw [nn_n (by omega), nn_n (by omega), dA, dB, nn_a]
      -- the second half, for whichever the first half chose
      have half : ∀ A' : Nat, A' ≤ d (frN t i) → (A' = d (frN t i) ∨ A' = d (toN t i) + (c * a i + 1)) → A' ≤ d (toN t i) + (c * a i + 1) → ∃ r' : mSt × (Nat → Nat), mo_findWay_138 s1 q p (nn i) (nn (frN t i)) (nn (toN t i)) (nn A') (nn (frN t i)) = mo_findWay_51 r'.1 q p (nn (i + 1)) ∧ Ch [205] [] s r'.1 ∧ (∀ v, v < nld t → r'.1 205 v = nn (r'.2 v)) ∧ rlR (edE t op) a tgt c (nld t) 1000000 r'.2 ∧ (∀ v, r'.2 v ≤ d0 v) ∧ (∀ l v u, l < i + 1 → edE t op l v u → r'.2 v ≤ d0 u + (c * a l + 1)) := fun A' a1 a2 a3 => by
        obtain ⟨B', hB'⟩ : ∃ B', B' = min (d (toN t i)) (A' + (c * a i + 1)) := ⟨_, rfl⟩
        obtain ⟨g1, g2, g3⟩ := fin (fun v => if v = toN t i then B' else if v = frN t i then A' else d v) ⟨fun v => by
          dsimp only
          by_cases c1 : v = toN t i
          · rw [if_pos c1, c1]; omega
          · rw [if_neg c1]
            by_cases c2 : v = frN t i
            · rw [if_pos c2, c2]; exact a1
            · rw [if_neg c2]; exact Nat.le_refl _, fun v => by
          dsimp only
          by_cases c1 : v = toN t i
          · rw [if_pos c1, c1]
            by_cases w : d (toN t i) ≤ A' + (c * a i + 1)
            · left; omega
            · right
              refine ⟨frN t i, E2, ?_⟩
              rcases a2 with a2 | a2 <;> omega
          · rw [if_neg c1]
            by_cases c2 : v = frN t i
            · rw [if_pos c2, c2]
              rcases a2 with a2 | a2
              · exact Or.inl a2
              · exact Or.inr ⟨toN t i, E1, a2⟩
            · rw [if_neg c2]; exact Or.inl rfl, fun v u he => by
          dsimp only
          rcases he.2.2 with ⟨w1, w2⟩ | ⟨w1, w2⟩
          · rw [← w1, ← w2, if_neg q7, if_pos rfl]; exact a3
          · rw [← w1, ← w2, if_pos rfl]; omega⟩
        refine ⟨(wr (wr s1 205 (frN t i) (nn A')) 205 (toN t i) (nn B'), _), ?_, Ch_w rfl rfl (Ch_w rfl rfl i1), fun v hv => ?_, g1, g2, g3⟩
        · rw [mo_findWay_138_eq, nn_b (i := i) (n := 12) (by omega) (by decide), nn_b (i := frN t i) (n := 8) (by omega) (by decide), nn_b (i := toN t i) (n := 8) (by omega) (by decide)]
          simp only [gd_t]
          have x1 : wr s1 205 (nn (frN t i)).toNatClampNeg (nn A') 205 (nn (toN t i)).toNatClampNeg = nn (d (toN t i)) := by
            rw [nn_n (by omega), nn_n (by omega), wr_at, upd_ne (fun w => q7 w.symm), dB]
          have x2 : wr s1 205 (nn (frN t i)).toNatClampNeg (nn A') 205 (nn (frN t i)).toNatClampNeg = nn A' := by
            rw [nn_n (by omega), wr_at, upd_at]
          have x3 : s1 206 (nn i).toNatClampNeg = nn (c * a i + 1) := by rw [nn_n (by omega), e50, if_pos o]
          rw [x1, x2, x3, nn_a, nn_s]
          show _ = mo_findWay_51 (wr (wr s1 205 (frN t i) (nn A')) 205 (toN t i) (nn B')) q p (nn (i + 1))
          by_cases w : d (toN t i) ≤ A' + (c * a i + 1)
          · rw [if_pos (yle w (by omega)), nn_n (by omega), nn_n (by omega), hB', Nat.min_eq_left w]
          · rw [if_neg (nle (by omega) (by omega)), nn_n (by omega), nn_n (by omega), hB', Nat.min_eq_right (by omega)]
        · show wr (wr s1 205 (frN t i) (nn A')) 205 (toN t i) (nn B') 205 v = nn (if v = toN t i then B' else if v = frN t i then A' else d v)
          rw [wr_at, wr_at]
          by_cases c1 : v = toN t i
          · rw [if_pos c1, c1, upd_at]
          · rw [if_neg c1, upd_ne c1]
            by_cases c2 : v = frN t i
            · rw [if_pos c2, c2, upd_at]
            · rw [if_neg c2, upd_ne c2]; exact i2 v hv
      by_cases c1 : d (frN t i) ≤ d (toN t i) + (c * a i + 1)
      · rw [if_pos (yle c1 (by omega))]
        exact half (d (frN t i)) (Nat.le_refl _) (Or.inl rfl) c1
      · rw [if_neg (nle (by omega) (by omega))]
        exact half (d (toN t i) + (c * a i + 1)) (by omega) (Or.inr rfl) (Nat.le_refl _)
    · rw [if_neg o, if_pos (by decide)]
      obtain ⟨g1, g2, g3⟩ := fin d ⟨fun _ => Nat.le_refl _, fun _ => Or.inl rfl, fun v u he => absurd he.2.1 o⟩
      exact ⟨(s1, d), rfl, i1, i2, g1, g2, g3⟩) (by omega) ⟨Ch_rf, hd, hR, fun _ => Nat.le_refl _, fun l v u hl => by omega⟩
  have e1 : mo_findWay_51 s q p 0 = mo_findWay_51 s' q p (nn (nln t)) := e1
  have e2 : Ch [205] [] s s' := e2
  have hK1 : K t s' := K_ch e2 rfl rfl hK
  refine ⟨s', d, ?_, e2, e3, e4, fun l v u he => e6 l v u he.1 he⟩
  rw [e1, mo_findWay_51_eq, K_m hK1 3 rfl, em3, el, if_pos (yle (Nat.le_refl _) (by omega))]
/-- the reference's row of lines -/
theorem follow241M (hJ : J t) (hw : ∀ l, c * a l + 1 ≤ 200000) {d : Nat → Nat} (hD : rlD (edE t op) a tgt c (nld t) 1000000 d) (hI : ∀ v x, v < nld t → mc (edE t op) a tgt c v x → x < 1000000) {q : Nat} (hq : q < 12) (hT : t 45 q = nn tgt) (htg : tgt < nld t) : ∀ (f n v x : Nat) (s : mSt), n + f ≤ 7 → v < nld t → mc (edE t op) a tgt c v x → wyE (tgP (edE t op) a tgt c) (otN t) (nln t) tgt f v = tgt → K t s → (∀ l, l < nln t → s 206 l = if op l = true then nn (c * a l + 1) else -1) → (∀ v, v < nld t → s 205 v = nn (d v) ∧ d v ≤ 1000000) → ∃ s', mo_findWay_241 s (nn q) (nn n) (nn v) = rV s' ∧ Ch [203, 204] [] s s' ∧ s' 203 = upd (s 203) q (nn (n + (wyL (tgP (edE t op) a tgt c) (otN t) (nln t) tgt f v).length)) ∧ ∀ j, s' 204 j = if 8 * q + n ≤ j ∧ j < 8 * q + n + (wyL (tgP (edE t op) a tgt c) (otN t) (nln t) tgt f v).length then nn ((wyL (tgP (edE t op) a tgt c) (otN t) (nln t) tgt f v).getD (j - (8 * q + n)) 0) else s 204 j := by
  obtain ⟨el, h12, -⟩ := nln_ok hJ
  obtain ⟨ed, h8, -⟩ := nld_ok hJ
  obtain ⟨-, ⟨pd1, pd2, pd3⟩, -⟩ := id (J_D hJ)
  have at_end : ∀ (n v : Nat) (s : mSt), K t s → v = tgt → mo_findWay_241 s (nn q) (nn n) (nn v) = rV (wr s 203 q (nn n)) := fun n v s hK e => by
    rw [mo_findWay_241_eq, nn_b (i := q) (n := 12) hq (by decide), gd_t, nn_n (by omega), K_at hK 199 rfl, pd2, hT, if_pos (by rw [e]), gd_t]
  intro f
  induction f with
  | zero =>
    intro n v x s hn hv hm hE hK hp hd
    rw [show wyL (tgP (edE t op) a tgt c) (otN t) (nln t) tgt 0 v = [] from rfl]
    refine ⟨_, at_end n v s hK hE, Ch_w rfl rfl Ch_rf, wr_at _ _ _ _, fun j => ?_⟩
    rw [if_neg (show ¬ (8 * q + n ≤ j ∧ j < 8 * q + n + ([] : List Nat).length) from fun w => by have : ([] : List Nat).length = 0 := rfl; omega), wr_ne _ _ _ (by omega)]
  | succ f ih =>
    intro n v x s hn hv hm hE hK hp hd
    have eL : wyL (tgP (edE t op) a tgt c) (otN t) (nln t) tgt (f + 1) v = (if v = tgt then [] else sk (fun l => tgP (edE t op) a tgt c l v) (nln t) 0 :: wyL (tgP (edE t op) a tgt c) (otN t) (nln t) tgt f (otN t (sk (fun l => tgP (edE t op) a tgt c l v) (nln t) 0) v)) := rfl
    rw [eL]
    have hE : (if v = tgt then v else wyE (tgP (edE t op) a tgt c) (otN t) (nln t) tgt f (otN t (sk (fun l => tgP (edE t op) a tgt c l v) (nln t) 0) v)) = tgt := hE
    by_cases e : v = tgt
    · rw [if_pos e]
      refine ⟨_, at_end n v s hK e, Ch_w rfl rfl Ch_rf, wr_at _ _ _ _, fun j => ?_⟩
      rw [if_neg (show ¬ (8 * q + n ≤ j ∧ j < 8 * q + n + ([] : List Nat).length) from fun w => by have : ([] : List Nat).length = 0 := rfl; omega), wr_ne _ _ _ (by omega)]
    · obtain ⟨l0, u, y, e1, h1, h2, h3, e2, hu, he, hy, ex⟩ := tg_next hJ hm e
      rw [if_neg e, e1, e2] at hE
      rw [if_neg e, e1, e2]
      have i8 : (8 : Int32) * nn q = nn (8 * q) := nn_m 8 q
      obtain ⟨g, hg⟩ : ∃ g, g = wr s 204 (8 * q + n) (nn l0) := ⟨_, rfl⟩
      have gC : Ch [203, 204] [] s g := by rw [hg]; exact Ch_w rfl rfl Ch_rf
      have gK : K t g := K_ch gC rfl rfl hK
      have hoc : (frN t l0 = v ∨ toN t l0 = v) := by
        rcases he.2.2 with ⟨w1, -⟩ | ⟨w1, -⟩
        · exact Or.inl w1
        · exact Or.inr w1
      -- the search for the line
      have srch : mo_findWay_254 s (nn q) (nn n) (nn v) (nn 0) = mo_findWay_241 g (nn q) (nn (n + 1)) (nn u) := by
        have key := loopE (σ := Unit) (fun _ i => mo_findWay_254 s (nn q) (nn n) (nn v) (nn i)) (l0 + 1) (fun i _ => i ≤ l0) (fun o => o = mo_findWay_241 g (nn q) (nn (n + 1)) (nn u)) (i0 := 0) (s0 := ()) (fun i _ hi _ => by
          show (∃ s', mo_findWay_254 s (nn q) (nn n) (nn v) (nn i) = mo_findWay_254 s (nn q) (nn n) (nn v) (nn (i + 1)) ∧ _) ∨ mo_findWay_254 s (nn q) (nn n) (nn v) (nn i) = _
          have hin : i < nln t := by omega
          obtain ⟨q1, q2, q3, q4, q5, q6, q7⟩ := ft_ok hJ hin
          have e50 := hp i hin
          have hwi := hw i
          have st : mo_findWay_254 s (nn q) (nn n) (nn v) (nn i) = if tgP (edE t op) a tgt c i v = true then mo_findWay_241 (wr s 204 (8 * q + n) (nn i)) (nn q) (nn (n + 1)) (nn (otN t i v)) else mo_findWay_254 s (nn q) (nn n) (nn v) (nn (i + 1)) := by
            rw [mo_findWay_254_eq, nn_b (i := i) (n := 12) (by omega) (by decide), nn_n (by omega), e50, nn_s]
            simp only [gd_t]
            by_cases o : op i = true
            · rw [if_pos o, if_neg (show ¬ nn (c * a i + 1) < 0 from nlt (j := 0) (by omega) (by omega)), otherM hJ hK hin (by omega), bI_rI]
              by_cases c1 : frN t i = v ∨ toN t i = v
              · have hou : otN t i v < nld t := by unfold otN; split <;> assumption
                have b1 := hd _ hou
                have b2 := hd v hv
                have gK' : K t (wr s 204 (8 * q + n) (nn i)) := K_ch (Ch_w (l := [203, 204]) (ks := []) rfl rfl Ch_rf) rfl rfl hK
                rw [if_pos c1, if_neg (show ¬ nn (otN t i v) = -4 from fun w => by
                  have := congrArg Int32.toInt w
                  rw [nn_i (by omega)] at this
                  have e4 : (-4 : Int32).toInt = -4 := rfl
                  omega), otherM hJ hK hin (by omega), if_pos c1, bI_rI, nn_b (i := otN t i v) (n := 8) (by omega) (by decide), nn_b (i := v) (n := 8) (by omega) (by decide), gd_t, gd_t, nn_n (by omega), nn_n (by omega), b1.1, b2.1, e50, if_pos o, nn_a, i8, nn_a, nn_b (i := 8 * q + n) (n := 96) (by omega) (by decide), gd_t, nn_n (by omega), otherM hJ gK' hin (by omega), bI_rI, if_pos c1, nn_s]
                have ti := tg_iff hJ hD hI hv hm hin o c1
                by_cases w : d (otN t i v) + (c * a i + 1) = d v
                · rw [if_pos (by rw [w]), if_pos (ti.mp w)]
                · rw [if_neg (fun w' => w ((nn_eq (by omega) (by omega)).mp w')), if_neg (fun w' => w (ti.mpr w'))]
              · rw [if_neg c1, if_pos rfl, if_neg (fun w => by
                  obtain ⟨u', x', hE', -⟩ := tgP_iff.mp w
                  rcases hE'.2.2 with ⟨w1, -⟩ | ⟨w1, -⟩
                  · exact c1 (Or.inl w1)
                  · exact c1 (Or.inr w1))]
            · rw [if_neg o, if_pos (by decide), if_neg (fun w => by
                obtain ⟨u', x', hE', -⟩ := tgP_iff.mp w
                exact o hE'.2.1)]
          by_cases w : i = l0
          · right
            rw [st, w, if_pos h2, e2, hg]
          · left
            exact ⟨(), by rw [st, if_neg (fun z => by rw [h3 i (by omega)] at z; cases z)], by omega⟩) (by omega) (Nat.zero_le _)
        rcases key with ⟨-, -, k1⟩ | k
        · have k1 : l0 + 1 ≤ l0 := k1
          omega
        · exact k
      obtain ⟨s', k1, k2, k3, k4⟩ := ih (n + 1) u y g (by omega) hu hy hE gK (fun l hl => by rw [gC.1 206 rfl rfl]; exact hp l hl) (fun v hv => by rw [gC.1 205 rfl rfl]; exact hd v hv)
      generalize wyL (tgP (edE t op) a tgt c) (otN t) (nln t) tgt f u = L at *
      have eln : (l0 :: L).length = L.length + 1 := rfl
      refine ⟨s', ?_, Ch_tr gC k2, ?_, fun j => ?_⟩
      · rw [mo_findWay_241_eq, nn_b (i := q) (n := 12) hq (by decide), gd_t, nn_n (by omega), K_at hK 199 rfl, pd2, hT, if_neg (fun w => e ((nn_eq (by omega) (by omega)).mp w))]
        exact srch.trans k1
      · rw [k3, hg, wr_ne _ _ _ (by omega), eln]
        congr 2
        omega
      · rw [k4 j, eln]
        by_cases c1 : 8 * q + (n + 1) ≤ j ∧ j < 8 * q + (n + 1) + L.length
        · rw [if_pos c1, if_pos (by omega)]
          obtain ⟨m, hm'⟩ : ∃ m, j - (8 * q + n) = m + 1 := ⟨j - (8 * q + n) - 1, by omega⟩
          rw [hm', List.getD_cons_succ]
          congr 2
          omega
        · rw [if_neg c1, hg, wr_at]
          by_cases c2 : j = 8 * q + n
          · rw [c2, upd_at, if_pos (by omega), Nat.sub_self]
            rfl
          · rw [upd_ne c2, if_neg (by omega)]
end FWY
