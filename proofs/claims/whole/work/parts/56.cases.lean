theorem shHas (s : mSt) (x : Int32) : sh_has s x = rI (wb x 0 3) s := by
  have e4 : (4 : Int32).toInt = 4 := rfl
  have e3 : (3 : Int32).toInt = 3 := rfl
  rw [sh_has_eq]
  unfold wb
  by_cases h : x < 0
  · rw [if_pos h, if_pos h]
  · rw [if_neg h, if_neg h]
    by_cases h2 : (4 : Int32) ≤ x
    · rw [if_pos h2, if_pos (by rw [Int32.lt_iff_toInt_lt]; rw [Int32.le_iff_toInt_le] at h2; omega)]
    · rw [if_neg h2, if_neg (by rw [Int32.lt_iff_toInt_lt]; rw [Int32.le_iff_toInt_le] at h2; omega)]
theorem moSheet (s : mSt) (x y : Int32) : mo_isSheet s x y = rI (if wb x 0 3 = 0 then 0 else if wb y 0 2 = 0 then 0 else 1) s := by
  rw [mo_isSheet_eq, mw_0_3, bI_rI]
  by_cases h1 : wb x 0 3 = 0
  · rw [if_pos h1, if_pos h1]
  · rw [if_neg h1, if_neg h1, mw_0_2, bI_rI]
    split <;> rfl
theorem JS_put {s : mSt} (h : JS s) {i k : Nat} (hi : i < 4) (hk : k < 40) (w : Int32) : JS (wr (wr s (179 + i) k w) 236 (40 * i + k) w) := by
  have ne : ∀ a, ¬ a = 236 → ¬ a = 179 + i → wr (wr s (179 + i) k w) 236 (40 * i + k) w a = s a := fun a h1 h2 => by rw [wr_ne _ _ _ h1, wr_ne _ _ _ h2]
  obtain ⟨⟨h1, h2⟩, h3⟩ := h
  unfold JS
  rw [ne 176 (by omega) (by omega), ne 177 (by omega) (by omega), ne 234 (by omega) (by omega), ne 235 (by omega) (by omega)]
  refine ⟨⟨h1, h2⟩, fun i' k' hi' hk' => ?_⟩
  have e1 : wr (wr s (179 + i) k w) 236 (40 * i + k) w 236 = upd (s 236) (40 * i + k) w := by
    rw [wr_at, wr_ne s k w (show ¬ 236 = 179 + i by omega)]
  rw [e1, wr_ne _ _ _ (show ¬ 179 + i' = 236 by omega)]
  by_cases ei : i' = i
  · subst ei
    rw [wr_at]
    by_cases ek : k' = k
    · subst ek
      rw [upd_at, upd_at]
    · rw [upd_ne ek, upd_ne (show ¬ 40 * i' + k' = 40 * i' + k by omega)]
      exact h3 i' k' hi' hk'
  · rw [wr_ne s k w (show ¬ 179 + i' = 179 + i by omega), upd_ne (show ¬ 40 * i' + k' = 40 * i + k by omega)]
    exact h3 i' k' hi' hk'
theorem Fr_put {s : mSt} {i k n : Nat} (hi : i < 4) (w w' : Int32) : Fr uS vS s (wr (wr s (179 + i) k w) 236 n w') := by
  match i, hi with
  | 0, _ => exact Fr_w rfl rfl (Fr_w rfl rfl Fr_rf)
  | 1, _ => exact Fr_w rfl rfl (Fr_w rfl rfl Fr_rf)
  | 2, _ => exact Fr_w rfl rfl (Fr_w rfl rfl Fr_rf)
  | 3, _ => exact Fr_w rfl rfl (Fr_w rfl rfl Fr_rf)
  | n + 4, h => exact absurd h (by omega)
theorem c_lay : CS3 J LL_lay mo_lay := by
  intro s x y v hJ
  have hS := J_S hJ
  obtain ⟨⟨e5, h2⟩, h3⟩ := id hS
  have r0 : (0 : Int32).toInt = 0 := rfl
  have r3 : (3 : Int32).toInt = 3 := rfl
  have rm1 : (-1 : Int32).toInt = -1 := rfl
  have rm4 : (-4 : Int32).toInt = -4 := rfl
  by_cases k1 : wb x 0 3 = 0
  · exact ⟨-1, s, s, by rw [LL_lay_eq, shHas, bI_rI, if_pos k1], by rw [mo_lay_eq, moSheet, if_pos k1, bI_rI, if_pos rfl], hJ⟩
  have wx := wb_n k1
  have hi : inb x 4 = true := inb_of (by omega) (by omega)
  have hi4 : x.toNatClampNeg < 4 := by show x.toInt.toNat < 4; omega
  have hbl : Nat.blt x.toNatClampNeg 4 = true := Nat.ble_eq_true_of_le hi4
  obtain ⟨bs, hl⟩ := h2 x.toNatClampNeg hi4
  have k2 : ¬ wb 0 0 2 = 0 := by decide
  have ms : ∀ g : mSt, mo_isSheet g x 0 = rI 1 g := fun g => by rw [moSheet, if_neg k1, if_neg k2]
  rcases hl with ⟨l1, l2⟩ | ⟨l1, l2⟩
  · exact ⟨-11, s, s, by rw [LL_lay_eq, shHas, bI_rI, if_neg k1, sh_isNothing_eq, hi, gd_t, if_pos l1, bI_rI, if_neg (by decide)], by rw [mo_lay_eq, ms, bI_rI, if_neg (by decide), hi, gd_t, if_pos l2], hJ⟩
  have n1 : ¬ s 176 x.toNatClampNeg = -1 := fun q => by rw [q] at l2; have := l2.1; omega
  have n4 : ¬ s 234 x.toNatClampNeg = -4 := fun q => by rw [l1] at q; rw [q] at l2; have := l2.1; omega
  have hc : sh_hasCell s x y = rI (wb y 0 (s 177 x.toNatClampNeg - 1)) s := by
    rw [sh_hasCell_eq, hi, gd_t, ← has_wb bs (by decide)]
    split
    · rfl
    · split <;> rfl
  by_cases k3 : wb y 0 (s 177 x.toNatClampNeg - 1) = 0
  · exact ⟨-12, s, s, by rw [LL_lay_eq, shHas, bI_rI, if_neg k1, sh_isNothing_eq, hi, gd_t, if_neg n1, bI_rI, if_pos rfl, hc, bI_rI, if_pos k3], by rw [mo_lay_eq, ms, bI_rI, if_neg (by decide), hi, gd_t, if_neg n4, gd_t, e5, mw0, bI_rI, if_pos k3], hJ⟩
  obtain ⟨y1, y2⟩ := wb_lt bs (by decide) k3
  have b40 := bs.2
  have hj : inb y 40 = true := inb_of y1 (by omega)
  have r40 : (40 : Int32).toInt = 40 := rfl
  have em : (40 * x).toInt = 40 * x.toInt := by
    rw [Int32.toInt_mul, r40, Int.bmod_def]
    split <;> omega
  have ea : (40 * x + y).toInt = 40 * x.toInt + y.toInt := by rw [i32_add (by omega) (by omega), em]
  have hk : inb (40 * x + y) 160 = true := inb_of (by omega) (by omega)
  have ei : (40 * x + y).toNatClampNeg = 40 * x.toNatClampNeg + y.toNatClampNeg := by
    show (40 * x + y).toInt.toNat = 40 * x.toInt.toNat + y.toInt.toNat
    omega
  have fin : ∀ w : Int32, LL_lay s x y v = rI 1 (wr s (179 + x.toNatClampNeg) y.toNatClampNeg w) → (∀ g : mSt, g 176 = s 176 → g 234 = s 234 → g 235 = s 235 → mo_lay g x y v = rI 1 (wr g 236 (40 * x.toNatClampNeg + y.toNatClampNeg) w)) → ∃ v' s1 s2, LL_lay s x y v = rI v' s1 ∧ mo_lay s1 x y v = rI v' s2 ∧ J s2 := fun w a1 a2 =>
    ⟨1, _, _, a1, a2 _ (wr_ne _ _ _ (by omega)) (wr_ne _ _ _ (by omega)) (wr_ne _ _ _ (by omega)), J_butS (Fr_put hi4 w w) hJ (JS_put hS hi4 (by show y.toInt.toNat < 40; omega) w)⟩
  by_cases q0 : s 176 x.toNatClampNeg = 0
  · refine fin v.toInt8.toInt32 ?_ (fun g g1 g2 g3 => ?_)
    · rw [LL_lay_eq, shHas, bI_rI, if_neg k1, sh_isNothing_eq, hi, gd_t, if_neg n1, bI_rI, if_pos rfl, hc, bI_rI, if_neg k3, sh_put_eq, hi, gd_t, if_pos q0, gd_t, hbl, gd_t, hj, gd_t, bI_rI]
    · rw [mo_lay_eq, ms, bI_rI, if_neg (by decide), hi, gd_t, g2, if_neg n4, gd_t, g3, e5, mw0, bI_rI, if_neg k3, gd_t, g2, l1, if_pos q0, hk, gd_t, ei]
  · by_cases q1 : s 176 x.toNatClampNeg = 1
    · refine fin v.toInt16.toInt32 ?_ (fun g g1 g2 g3 => ?_)
      · rw [LL_lay_eq, shHas, bI_rI, if_neg k1, sh_isNothing_eq, hi, gd_t, if_neg n1, bI_rI, if_pos rfl, hc, bI_rI, if_neg k3, sh_put_eq, hi, gd_t, if_neg q0, gd_t, if_pos q1, gd_t, hbl, gd_t, hj, gd_t, bI_rI]
      · rw [mo_lay_eq, ms, bI_rI, if_neg (by decide), hi, gd_t, g2, if_neg n4, gd_t, g3, e5, mw0, bI_rI, if_neg k3, gd_t, g2, l1, if_neg q0, gd_t, if_pos q1, hk, gd_t, ei]
    · refine fin v ?_ (fun g g1 g2 g3 => ?_)
      · rw [LL_lay_eq, shHas, bI_rI, if_neg k1, sh_isNothing_eq, hi, gd_t, if_neg n1, bI_rI, if_pos rfl, hc, bI_rI, if_neg k3, sh_put_eq, hi, gd_t, if_neg q0, gd_t, if_neg q1, gd_t, hbl, gd_t, hj, gd_t, bI_rI]
      · rw [mo_lay_eq, ms, bI_rI, if_neg (by decide), hi, gd_t, g2, if_neg n4, gd_t, g3, e5, mw0, bI_rI, if_neg k3, gd_t, g2, l1, if_neg q0, gd_t, if_neg q1, hk, gd_t, ei]
