/-! the class's turn -/
def swL : List Nat := [47, 49, 50, 51, 54, 55, 56, 57, 58, 59, 60, 61, 62, 63, 64, 65, 66, 68, 69, 70, 71, 72, 73, 74, 75, 76, 77, 78, 79, 80, 81, 82, 83, 84, 85, 86, 87, 88, 89, 90, 91, 92, 93, 94, 95, 96, 97, 98, 99, 100, 101, 102, 103, 104, 105, 106, 107, 108, 109, 110, 111, 112, 113, 114, 115, 116, 117, 118, 119, 120, 121, 122, 123, 124, 125, 126, 127, 128]
theorem swL_row {k : Nat} (hk : k < 61) : swL.contains (68 + k) = true := by
  have : ∀ k < 61, swL.contains (68 + k) = true := by decide
  exact this k hk
theorem swL_way {q : Nat} (hq : q < 12) : swL.contains (54 + q) = true := by
  have : ∀ q < 12, swL.contains (54 + q) = true := by decide
  exact this q hq
theorem beq183 {b : Nat} (h : b ≠ 183) : Nat.beq 183 b = false := by
  cases w : Nat.beq 183 b with
  | false => rfl
  | true => exact absurd (Nat.eq_of_beq_eq_true w).symm h
section CHT
variable {t s : mSt} {a : Nat → Nat}
/-- what holds while demands to one land choose -/
def ctI (t s : mSt) (a : Nat → Nat) (k T : Nat) (B : Nat → Nat) (q : Nat) (s1 : mSt) : Prop :=
  (Ch swL [] s s1 ∧ s1 50 = s 50 ∧ s1 47 = s 47) ∧ (∀ j, j < 61 → j ≠ k → s1 (68 + j) = s (68 + j)) ∧ (∀ l, l < nln t → s1 (68 + k) l = nn (B l + psm (cbN t a l) (fun p => decide (tgN t p = T)) q)) ∧ (∀ p, p < q → tgN t p = T → s1 66 p = nn (swW t a p).length ∧ ∀ j, j < (swW t a p).length → s1 (54 + p) j = nn ((swW t a p).getD j 0)) ∧ ∀ p, p < 12 → (q ≤ p ∨ tgN t p ≠ T) → s1 66 p = s 66 p ∧ s1 (54 + p) = s (54 + p)
theorem chooseToC (hJ : J t) (hK : K t s) {k : Nat} (hk : k < 61) (hA : ∀ l, a l ≤ 1189) (h50 : ∀ l, l < nln t → s 50 l = if opS t l = true then nn (16 * a l + 1) else 0) {T : Nat} (hT : T < nld t) {B : Nat → Nat} (hB : ∀ l, l < nln t → s (68 + k) l = nn (B l)) : ∃ s', tr_chooseTo s (nn T) (nn k) = rV s' ∧ ctI t s a k T B (ndm t) s' := by
  obtain ⟨el, h12, -⟩ := nln_ok hJ
  obtain ⟨ed, hd12, -⟩ := ndm_ok hJ
  obtain ⟨-, h8, -⟩ := nld_ok hJ
  have hw := w_lt (a := a) (c := 16) hA (by omega)
  have hI : ∀ v x, v < nld t → mc (edE t (opS t)) a T 16 v x → x < 268435456 := fun v x h1 h2 => by have := mc_lt hJ hA (show 16 ≤ 100 by omega) v x h1 h2; omega
  rw [tr_chooseTo_eq]
  obtain ⟨⟨s1, b⟩, e1, e2, e3⟩ := loopS (σ := mSt × Bool) (fun r q => tr_chooseTo_5 r.1 (nn T) (nn k) (bi r.2) (nn q)) (ndm t) (fun q r => ctI t s a k T B q r.1 ∧ (r.2 = true → ∃ d, rlD (edE t (opS t)) a T 16 (nld t) 268435456 d ∧ ∀ v, v < nld t → r.1 51 v = nn (d v) ∧ d v ≤ 268435456)) (i0 := 0) (s0 := (s, false)) (fun q r hq hR => by
    obtain ⟨s1, b⟩ := r
    show ∃ r' : mSt × Bool, tr_chooseTo_5 s1 (nn T) (nn k) (bi b) (nn q) = tr_chooseTo_5 r'.1 (nn T) (nn k) (bi r'.2) (nn (q + 1)) ∧ _
    obtain ⟨⟨⟨i1, i1b, i1c⟩, i2, i3, i4, i5⟩, i6⟩ := hR
    have i1 : Ch swL [] s s1 := i1
    have i1b : s1 50 = s 50 := i1b
    have i1c : s1 47 = s 47 := i1c
    have i2 : ∀ j, j < 61 → j ≠ k → s1 (68 + j) = s (68 + j) := i2
    have i3 : ∀ l, l < nln t → s1 (68 + k) l = nn (B l + psm (cbN t a l) (fun p => decide (tgN t p = T)) q) := i3
    have i4 : ∀ p, p < q → tgN t p = T → s1 66 p = nn (swW t a p).length ∧ ∀ j, j < (swW t a p).length → s1 (54 + p) j = nn ((swW t a p).getD j 0) := i4
    have i5 : ∀ p, p < 12 → (q ≤ p ∨ tgN t p ≠ T) → s1 66 p = s 66 p ∧ s1 (54 + p) = s (54 + p) := i5
    have i6 : b = true → ∃ d, rlD (edE t (opS t)) a T 16 (nld t) 268435456 d ∧ ∀ v, v < nld t → s1 51 v = nn (d v) ∧ d v ≤ 268435456 := i6
    have hK1 : K t s1 := K_ch i1 rfl rfl hK
    obtain ⟨d1, d2, d3, d4, d5, d6, d7⟩ := dm_ok hJ hq
    have eps : ∀ l, psm (cbN t a l) (fun p => decide (tgN t p = T)) (q + 1) = psm (cbN t a l) (fun p => decide (tgN t p = T)) q + (if decide (tgN t q = T) = true then cbN t a l q else 0) := fun l => rfl
    have eW : swW t a q = if t 46 q = 0 then [] else pthL t (opS t) a 100 (srN t q) (tgN t q) := rfl
    rw [tr_chooseTo_5_eq s1 (nn T) (nn k) (bi b) (nn q), K_at hK1 43 rfl, ed, if_neg (nle hq (by omega)), nn_b (i := q) (n := 12) d1 (by decide), gd_t, gd_t, gd_t, nn_n (by omega), K_at hK1 45 rfl, K_at hK1 46 rfl, d3, nn_s]
    by_cases eT : tgN t q = T
    · rw [if_pos (by rw [eT])]
      have cw : Ch swL [] s1 (wr s1 66 q 0) := Ch_w rfl rfl Ch_rf
      by_cases z : t 46 q = 0
      · rw [if_pos z]
        rw [if_pos z] at eW
        have ecb : ∀ l, cbN t a l q = 0 := fun l => by
          show (if inL (swW t a q) l = true then mqN t q else 0) = 0
          rw [eW]; rfl
        refine ⟨(wr s1 66 q 0, b), rfl, ⟨⟨Ch_tr i1 cw, ?_, ?_⟩, fun j hj hne => ?_, fun l hl => ?_, fun p hp ht => ?_, fun p hp ht => ?_⟩, fun hb => ?_⟩
        · show wr s1 66 q 0 50 = _
          rw [wr_ne _ _ _ (by omega)]; exact i1b
        · show wr s1 66 q 0 47 = _
          rw [wr_ne _ _ _ (by omega)]; exact i1c
        · show wr s1 66 q 0 (68 + j) = _
          rw [wr_ne _ _ _ (by omega)]; exact i2 j hj hne
        · show wr s1 66 q 0 (68 + k) l = _
          rw [wr_ne _ _ _ (by omega), eps, ecb, i3 l hl]
          split <;> rfl
        · show wr s1 66 q 0 66 p = _ ∧ ∀ j, _ → wr s1 66 q 0 (54 + p) j = _
          rw [wr_at, wr_ne _ _ _ (by omega)]
          by_cases e : p = q
          · subst e
            rw [upd_at, eW]
            exact ⟨rfl, fun j hj => by have : ([] : List Nat).length = 0 := rfl; omega⟩
          · rw [upd_ne e]; exact i4 p (by omega) ht
        · show wr s1 66 q 0 66 p = _ ∧ wr s1 66 q 0 (54 + p) = _
          have hpq : p ≠ q := fun e => by
            rcases ht with ht | ht
            · omega
            · rw [e] at ht; exact ht eT
          rw [wr_at, upd_ne hpq, wr_ne _ _ _ (by omega)]
          exact i5 p hp (by rcases ht with ht | ht; exact Or.inl (by omega); exact Or.inr ht)
        · obtain ⟨d, g1, g2⟩ := i6 hb
          exact ⟨d, g1, fun v hv => by show wr s1 66 q 0 51 v = _ ∧ _; rw [wr_ne _ _ _ (by omega)]; exact g2 v hv⟩
      · rw [if_neg z]
        rw [if_neg z] at eW
        have K2 : K t (wr s1 66 q 0) := K_ch cw rfl rfl hK1
        have q50 : ∀ l, l < nln t → s1 50 l = if opS t l = true then nn (16 * a l + 1) else 0 := fun l hl => by rw [i1b]; exact h50 l hl
        -- measured, then or before
        have hm : ∃ s3 d, (if bi b = 0 then bV (tr_measureTo (wr s1 66 q 0) (nn T)) fun s1 => tr_chooseTo_69 s1 (nn T) (nn k) 1 (nn q) else tr_chooseTo_69 (wr s1 66 q 0) (nn T) (nn k) (bi b) (nn q)) = tr_chooseTo_69 s3 (nn T) (nn k) 1 (nn q) ∧ Ch [51] [] (wr s1 66 q 0) s3 ∧ rlD (edE t (opS t)) a T 16 (nld t) 268435456 d ∧ ∀ v, v < nld t → s3 51 v = nn (d v) ∧ d v ≤ 268435456 := by
          cases b with
          | true =>
            obtain ⟨d, g1, g2⟩ := i6 rfl
            exact ⟨wr s1 66 q 0, d, by rw [if_neg (by decide)]; rfl, Ch_rf, g1, fun v hv => by rw [wr_ne _ _ _ (by omega)]; exact g2 v hv⟩
          | false =>
            obtain ⟨s3, f1, f2, d, f3, f4⟩ := measureC hJ K2 (op := opS t) (a := a) (c := 16) (tgt := T) (fun l hl => by rw [wr_ne _ _ _ (by omega)]; exact q50 l hl) hw hT
            exact ⟨s3, d, by rw [if_pos bi_f, f1, bV_rV], f2, f3, f4⟩
        obtain ⟨s3, d, m1, m2, m3, m4⟩ := hm
        have K3 : K t s3 := K_ch m2 rfl rfl K2
        have h3ne : ∀ x, x ≠ 51 → x ≠ 66 → s3 x = s1 x := fun x hx1 hx2 => by rw [Ch1 m2 hx1, wr_ne _ _ _ hx2]
        obtain ⟨s4, g1, g2, g3, g4⟩ := followC hJ K3 (op := opS t) (a := a) (c := 16) (tgt := T) (fun l hl => by rw [h3ne 50 (by omega) (by omega), i1b]; exact h50 l hl) hw m3 m4 hI d1 (by rw [d3, eT]) hT d2 d4
        have eP : pthL t (opS t) a 16 (srN t q) T = swW t a q := by rw [eW, pth_lex hJ d4, eT]
        rw [eP] at g3 g4
        have hlen : (swW t a q).length ≤ 7 := swW_len
        have hget := swW_mem hJ (a := a) hq
        have hnd := swW_nodup hJ (a := a) hq
        obtain ⟨em, hmq⟩ := mq_ok hJ hq
        have ecb : ∀ l, cbN t a l q = if inL (swW t a q) l = true then mqN t q else 0 := fun l => rfl
        generalize hL : swW t a q = L at *
        have c4 : Ch swL [] s s4 := by
          refine Ch_tr (Ch_tr (Ch_tr i1 cw) (Ch_sub m2 rfl rfl)) ⟨fun x hx _ => g2 x (fun e => ?_) (fun e => ?_), fun j _ => by rw [g2 183 (by omega) (by omega)]⟩
          · rw [e, swL_way d1] at hx; cases hx
          · rw [e] at hx; cases hx
        have h4ne : ∀ x, x ≠ 54 + q → x ≠ 66 → x ≠ 51 → s4 x = s1 x := fun x hx1 hx2 hx3 => by rw [g2 x hx1 hx2, h3ne x hx3 hx2]
        have K4 : K t s4 := K_ch c4 rfl rfl hK
        have h66 : s4 66 = upd (s1 66) q (nn L.length) := by rw [g3, Ch1 m2 (by omega), wr_at, upd_upd]
        obtain ⟨s5, k1, k2, k3⟩ := loopS (σ := mSt) (fun s5 i => tr_chooseTo_78 s5 (nn T) (nn k) 1 (nn q) (nn i)) L.length (fun i s5 => (∀ x, x ≠ 68 + k → s5 x = s4 x) ∧ ∀ l, l < nln t → s5 (68 + k) l = nn (adZ (fun l => B l + psm (cbN t a l) (fun p => decide (tgN t p = T)) q) (mqN t q) L i l)) (i0 := 0) (s0 := s4) (fun i s5 hi hI' => by
          show ∃ s', tr_chooseTo_78 s5 (nn T) (nn k) 1 (nn q) (nn i) = tr_chooseTo_78 s' (nn T) (nn k) 1 (nn q) (nn (i + 1)) ∧ _
          obtain ⟨c1, c2⟩ := hI'
          have hg := hget i hi
          have h46 : s5 46 q = nn (mqN t q) := by rw [c1 46 (by omega), K_at K4 46 rfl]; exact em
          have hrow : s5 (54 + q) i = nn (L.getD i 0) := by rw [c1 (54 + q) (by omega)]; exact g4 i hi
          refine ⟨wr s5 (68 + k) (L.getD i 0) (nn (adZ (fun l => B l + psm (cbN t a l) (fun p => decide (tgN t p = T)) q) (mqN t q) L i (L.getD i 0) + mqN t q)), ?_, fun x hx => by rw [wr_ne _ _ _ hx]; exact c1 x hx, fun l hl => ?_⟩
          · rw [tr_chooseTo_78_eq s5 (nn T) (nn k) 1 (nn q) (nn i), nn_b (i := q) (n := 12) d1 (by decide), gd_t, nn_n (by omega), c1 66 (by omega), h66, upd_at, if_neg (nle hi (by omega)), nn_b (i := k) (n := 61) hk (by decide), blt_t d1, nn_b (i := i) (n := 7) (by omega) (by decide), nn_n (by omega), nn_n (by omega), blt_t hk, hrow, nn_b (i := L.getD i 0) (n := 12) (by omega) (by decide), nn_n (by omega)]
            simp only [gd_t]
            rw [c2 _ hg, h46, nn_a, nn_s]
          · rw [wr_at]
            show _ = nn (if l = L.getD i 0 then adZ (fun l => B l + psm (cbN t a l) (fun p => decide (tgN t p = T)) q) (mqN t q) L i l + mqN t q else adZ (fun l => B l + psm (cbN t a l) (fun p => decide (tgN t p = T)) q) (mqN t q) L i l)
            by_cases e : l = L.getD i 0
            · rw [if_pos e, ← e, upd_at]
            · rw [if_neg e, upd_ne e]; exact c2 l hl) (by omega) ⟨fun _ _ => rfl, fun l hl => by
              show s4 (68 + k) l = nn (B l + psm (cbN t a l) (fun p => decide (tgN t p = T)) q)
              rw [h4ne (68 + k) (by omega) (by omega) (by omega)]
              exact i3 l hl⟩
        have k1 : tr_chooseTo_78 s4 (nn T) (nn k) 1 (nn q) (nn 0) = tr_chooseTo_78 s5 (nn T) (nn k) 1 (nn q) (nn L.length) := k1
        have h5ne : ∀ x, x ≠ 68 + k → x ≠ 54 + q → x ≠ 66 → x ≠ 51 → s5 x = s1 x := fun x hx0 hx1 hx2 hx3 => by rw [k2 x hx0, h4ne x hx1 hx2 hx3]
        have h566 : s5 66 = upd (s1 66) q (nn L.length) := by rw [k2 66 (by omega), h66]
        have c5 : Ch swL [] s s5 := by
          refine Ch_tr c4 ⟨fun x hx _ => k2 x (fun e => ?_), fun j _ => by rw [k2 183 (by omega)]⟩
          rw [e, swL_row hk] at hx; cases hx
        rw [m1, tr_chooseTo_69_eq, g1, bV_rV]
        refine ⟨(s5, true), ?_, ⟨⟨c5, ?_, ?_⟩, fun j hj hne => ?_, fun l hl => ?_, fun p hp ht => ?_, fun p hp ht => ?_⟩, fun _ => ⟨d, m3, fun v hv => ?_⟩⟩
        · refine Eq.trans k1 ?_
          rw [tr_chooseTo_78_eq, nn_b (i := q) (n := 12) d1 (by decide), gd_t, nn_n (by omega), h566, upd_at, if_pos (yle (Nat.le_refl _) (by omega)), nn_s]
          rfl
        · show s5 50 = _
          rw [h5ne 50 (by omega) (by omega) (by omega) (by omega)]; exact i1b
        · show s5 47 = _
          rw [h5ne 47 (by omega) (by omega) (by omega) (by omega)]; exact i1c
        · show s5 (68 + j) = _
          rw [h5ne (68 + j) (by omega) (by omega) (by omega) (by omega)]; exact i2 j hj hne
        · show s5 (68 + k) l = _
          rw [k3 l hl, adZ_eq hnd l L.length (Nat.le_refl _), eps, decide_eq_true eT, if_pos rfl, ecb]
          congr 1
          rw [Nat.add_assoc]
          rfl
        · show s5 66 p = _ ∧ ∀ j, _ → s5 (54 + p) j = _
          by_cases e : p = q
          · rw [e, hL]
            exact ⟨by rw [h566, upd_at], fun j hj => by rw [k2 (54 + q) (by omega)]; exact g4 j hj⟩
          · rw [h566, upd_ne e, h5ne (54 + p) (by omega) (by omega) (by omega) (by omega)]
            exact i4 p (by omega) ht
        · show s5 66 p = _ ∧ s5 (54 + p) = _
          have hpq : p ≠ q := fun e => by
            rcases ht with ht | ht
            · omega
            · rw [e] at ht; exact ht eT
          rw [h566, upd_ne hpq, h5ne (54 + p) (by omega) (by omega) (by omega) (by omega)]
          exact i5 p hp (by rcases ht with ht | ht; exact Or.inl (by omega); exact Or.inr ht)
        · show s5 51 v = _ ∧ _
          rw [k2 51 (by omega), g2 51 (by omega) (by omega)]
          exact m4 v hv
    · rw [if_neg (fun w => eT ((nn_eq (by omega) (by omega)).mp w))]
      refine ⟨(s1, b), rfl, ⟨⟨i1, i1b, i1c⟩, i2, fun l hl => ?_, fun p hp ht => ?_, fun p hp ht => ?_⟩, i6⟩
      · show s1 (68 + k) l = _
        rw [eps, decide_eq_false eT, if_neg (by decide), Nat.add_zero]; exact i3 l hl
      · have : p ≠ q := fun e => eT (by rw [← e]; exact ht)
        exact i4 p (by omega) ht
      · rcases ht with ht | ht
        · exact i5 p hp (Or.inl (by omega))
        · exact i5 p hp (Or.inr ht)) (by omega) ⟨⟨⟨Ch_rf, rfl, rfl⟩, fun _ _ _ => rfl, fun l hl => hB l hl, fun p hp => by omega, fun p _ _ => ⟨rfl, rfl⟩⟩, fun h => by cases h⟩
  have e1 : tr_chooseTo_5 s (nn T) (nn k) 0 (nn 0) = tr_chooseTo_5 s1 (nn T) (nn k) (bi b) (nn (ndm t)) := e1
  have e2 : ctI t s a k T B (ndm t) s1 := e2
  have K1 : K t s1 := K_ch e2.1.1 rfl rfl hK
  refine ⟨s1, e1.trans ?_, e2⟩
  rw [tr_chooseTo_5_eq, K_at K1 43 rfl, ed, if_pos (yle (Nat.le_refl _) (by omega))]
end CHT
