/-! a whole search of the reference; the bounds -/
def wlV (L : List Nat) : Int32 := if L.length = 0 then -4 else nn L.length
section FW2
variable {t s : mSt} {op : Nat → Bool} {a : Nat → Nat} {c tgt : Nat}
theorem mc_lt (hJ : J t) (hA : ∀ l, a l ≤ 1189) (hc : c ≤ 100) : ∀ v x, v < nld t → mc (edE t op) a tgt c v x → x < 1000000 := by
  intro v x hv hm
  obtain ⟨-, h8, -⟩ := nld_ok hJ
  obtain ⟨n, S, w, e, hn⟩ := mc_sh (edE_b hJ) hm hv
  have h1 := wk_sum (A := 1189) (fun l _ _ _ => hA l) n v S w
  have h2 : n * 1189 ≤ 7 * 1189 := Nat.mul_le_mul_right _ (by omega)
  have h3 : c * S ≤ 100 * S := Nat.mul_le_mul_right _ hc
  omega
theorem w_lt (hA : ∀ l, a l ≤ 1189) (hc : c ≤ 100) : ∀ l, c * a l + 1 ≤ 200000 := by
  intro l
  have h3 : c * a l ≤ 100 * a l := Nat.mul_le_mul_right _ hc
  have := hA l
  omega
theorem findWayM (hJ : J t) (hK : K t s) (hp : ∀ l, l < nln t → s 206 l = if op l = true then nn (c * a l + 1) else -1) (hA : ∀ l, a l ≤ 1189) (hc : c ≤ 100) {q src : Nat} (hq : q < 12) (hT : t 45 q = nn tgt) (htg : tgt < nld t) (hS : t 44 q = nn src) (hs : src < nld t) (hne : src ≠ tgt) : ∃ s', mo_findWay s (nn q) = rV s' ∧ Ch [203, 204, 205] [] s s' ∧ s' 203 = upd (s 203) q (wlV (pthL t op a c src tgt)) ∧ (∀ j, j < (pthL t op a c src tgt).length → s' 204 (8 * q + j) = nn ((pthL t op a c src tgt).getD j 0)) ∧ ∀ j, (j < 8 * q ∨ 8 * q + 8 ≤ j) → s' 204 j = s 204 j := by
  obtain ⟨ed, h8, -⟩ := nld_ok hJ
  have em := (J_N hJ).1.1.1
  obtain ⟨-, ⟨pd1, pd2, pd3⟩, -⟩ := id (J_D hJ)
  have hb := edE_b hJ (op := op)
  have hI := mc_lt hJ hA hc (op := op) (tgt := tgt)
  have hw := w_lt hA hc
  obtain ⟨r1, r2⟩ := rl_first (E := edE t op) (a := a) (tgt := tgt) (c := c) (nl := nld t) (INF := 1000000)
  -- the first row
  obtain ⟨s1, e1, e2, e3⟩ := loopS (σ := mSt) (fun s1 i => mo_findWay_2 s1 (nn q) (nn i)) (nld t) (fun i s1 => Ch [203, 204, 205] [] s s1 ∧ (∀ j, j < i → s1 205 j = nn (if j = tgt then 0 else 1000000)) ∧ s1 203 = s 203 ∧ s1 204 = s 204) (i0 := 0) (s0 := s) (fun i s1 hi hI' => by
    show ∃ s', mo_findWay_2 s1 (nn q) (nn i) = mo_findWay_2 s' (nn q) (nn (i + 1)) ∧ _
    obtain ⟨c1, c2, c3, c4⟩ := hI'
    have hK1 : K t s1 := K_ch c1 rfl rfl hK
    refine ⟨wr s1 205 i (nn (if i = tgt then 0 else 1000000)), ?_, Ch_w rfl rfl c1, fun j hj => ?_, by rw [wr_ne _ _ _ (by omega)]; exact c3, by rw [wr_ne _ _ _ (by omega)]; exact c4⟩
    · rw [mo_findWay_2_eq s1 (nn q) (nn i), K_m hK1 0 rfl, em, ed, if_neg (nle hi (by omega)), nn_b (i := q) (n := 12) hq (by decide), nn_b (i := i) (n := 8) (by omega) (by decide), gd_t, gd_t, gd_t, nn_n (by omega), nn_n (by omega), K_at hK1 199 rfl, pd2, hT, nn_s]
      by_cases e : i = tgt
      · rw [if_pos (by rw [e]), if_pos e]; rfl
      · rw [if_neg (fun w => e ((nn_eq (by omega) (by omega)).mp w)), if_neg e]; rfl
    · rw [wr_at]
      by_cases e : j = i
      · rw [e, upd_at]
      · rw [upd_ne e]; exact c2 j (by omega)) (by omega) ⟨Ch_rf, fun j hj => by omega, rfl, rfl⟩
  have e1 : mo_findWay_2 s (nn q) (nn 0) = mo_findWay_2 s1 (nn q) (nn (nld t)) := e1
  obtain ⟨e3, e4, e5⟩ := e3
  have K1 : K t s1 := K_ch e2 rfl rfl hK
  have f0 : mo_findWay s (nn q) = mo_findWay_41 s1 (nn q) (nn 0) := by
    rw [mo_findWay_eq]
    refine e1.trans ?_
    rw [mo_findWay_2_eq, K_m K1 0 rfl, em, ed, if_pos (yle (Nat.le_refl _) (by omega))]
    rfl
  -- the turns
  obtain ⟨⟨s2, d⟩, g1, g2, g3, g4, g5⟩ := loopS (σ := mSt × (Nat → Nat)) (fun r p => mo_findWay_41 r.1 (nn q) (nn p)) (nld t) (fun p r => Ch [205] [] s1 r.1 ∧ (∀ v, v < nld t → r.1 205 v = nn (r.2 v)) ∧ rlR (edE t op) a tgt c (nld t) 1000000 r.2 ∧ rlP (edE t op) a tgt c (nld t) p r.2) (i0 := 0) (s0 := (s1, fun v => if v = tgt then 0 else 1000000)) (fun p r hp' hI' => by
    obtain ⟨s2, d⟩ := r
    show ∃ r' : mSt × (Nat → Nat), mo_findWay_41 s2 (nn q) (nn p) = mo_findWay_41 r'.1 (nn q) (nn (p + 1)) ∧ _
    obtain ⟨i1, i2, i3, i4⟩ := hI'
    have i1 : Ch [205] [] s1 s2 := i1
    have i2 : ∀ v, v < nld t → s2 205 v = nn (d v) := i2
    have i3 : rlR (edE t op) a tgt c (nld t) 1000000 d := i3
    have i4 : rlP (edE t op) a tgt c (nld t) p d := i4
    have hK2 : K t s2 := K_ch i1 rfl rfl K1
    obtain ⟨s3, d', h1, h2, h3, h4, h5⟩ := turnM hJ hK2 (fun l hl => by rw [i1.1 206 rfl rfl, e2.1 206 rfl rfl]; exact hp l hl) hw i2 i3 (nn q) (nn p)
    refine ⟨(s3, d'), ?_, Ch_tr i1 h2, h3, h4, rl_turn h4.1 hb i4 h5⟩
    rw [mo_findWay_41_eq s2 (nn q) (nn p), K_m hK2 0 rfl, em, ed, if_neg (nle hp' (by omega)), h1, nn_s]) (by omega) ⟨Ch_rf, e3, r1, r2⟩
  have g1 : mo_findWay_41 s1 (nn q) (nn 0) = mo_findWay_41 s2 (nn q) (nn (nld t)) := g1
  have g2 : Ch [205] [] s1 s2 := g2
  have g3 : ∀ v, v < nld t → s2 205 v = nn (d v) := g3
  have g4 : rlR (edE t op) a tgt c (nld t) 1000000 d := g4
  have hD := rl_fin hb g4 g5 (by omega)
  have K2 : K t s2 := K_ch g2 rfl rfl K1
  have c12 : Ch [203, 204, 205] [] s s2 := Ch_tr e2 (Ch_sub g2 rfl rfl)
  have hd : ∀ v, v < nld t → s2 205 v = nn (d v) ∧ d v ≤ 1000000 := fun v hv => ⟨g3 v hv, (g4.2 v hv).1⟩
  obtain ⟨b1, b2⟩ := hd src hs
  have h203 : s2 203 = s 203 := by rw [g2.1 203 rfl rfl, e4]
  have h204 : s2 204 = s 204 := by rw [g2.1 204 rfl rfl, e5]
  rw [f0, g1, mo_findWay_41_eq, K_m K2 0 rfl, em, ed, if_pos (yle (Nat.le_refl _) (by omega)), nn_b (i := q) (n := 12) hq (by decide), gd_t, gd_t, gd_t, nn_n (by omega), K_at K2 198 rfl, pd1, hS, nn_b (i := src) (n := 8) (by omega) (by decide), gd_t, nn_n (by omega), b1]
  by_cases h : ∃ x, mc (edE t op) a tgt c src x
  · obtain ⟨x, h⟩ := h
    have e1' := (hD src hs).1 x h (hI src x hs h)
    have hx := hI src x hs h
    have hl1 := pth_ne h hne
    have hl7 := wy_len (P := tgP (edE t op) a tgt c) (ot := otN t) (ne := nln t) (tgt := tgt) 7 src
    rw [if_pos (show nn (d src) < 1000000 from ylt (j := 1000000) (by omega) (by omega))]
    have cw : Ch [203, 204] [] s2 (wr s2 203 q (-4)) := Ch_w rfl rfl Ch_rf
    obtain ⟨s', k1, k2, k3, k4⟩ := follow241M hJ hw hD hI hq hT htg 7 0 src x (wr s2 203 q (-4)) (by omega) hs h (way_end7 hJ hs h) (K_ch cw rfl rfl K2) (fun l hl => by rw [cw.1 206 rfl rfl, c12.1 206 rfl rfl]; exact hp l hl) (fun v hv => by rw [cw.1 205 rfl rfl]; exact hd v hv)
    rw [pth_y h] at hl1
    rw [pth_y h]
    generalize wyL (tgP (edE t op) a tgt c) (otN t) (nln t) tgt 7 src = L at *
    refine ⟨s', k1, Ch_tr c12 (Ch_sub (Ch_tr cw k2) rfl rfl), ?_, fun j hj => ?_, fun j hj => ?_⟩
    · rw [k3, wr_at, upd_upd, h203, Nat.zero_add]
      unfold wlV
      rw [if_neg (by omega)]
    · rw [k4, if_pos (by omega), Nat.add_zero, Nat.add_sub_cancel_left]
    · rw [k4, if_neg (by omega), wr_ne _ _ _ (by omega), h204]
  · have e1' := (hD src hs).2 (fun x q => h ⟨x, q⟩)
    rw [if_neg (show ¬ nn (d src) < 1000000 from nlt (j := 1000000) (by omega) (by omega)), pth_n (fun x q => h ⟨x, q⟩)]
    refine ⟨_, rfl, Ch_tr c12 (Ch_w rfl rfl Ch_rf), ?_, fun j hj => ?_, fun j hj => ?_⟩
    · rw [wr_at, h203]; rfl
    · have : ([] : List Nat).length = 0 := rfl
      omega
    · rw [wr_ne _ _ _ (by omega), h204]
end FW2
