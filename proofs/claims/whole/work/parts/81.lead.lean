/-! LED -/
def srN (t : mSt) (q : Nat) : Nat := (t 44 q).toNatClampNeg
def tgN (t : mSt) (q : Nat) : Nat := (t 45 q).toNatClampNeg
theorem dm_ok {t : mSt} (hJ : J t) {q : Nat} (hq : q < ndm t) : q < 12 ∧ t 44 q = nn (srN t q) ∧ t 45 q = nn (tgN t q) ∧ srN t q < nld t ∧ tgN t q < nld t ∧ srN t q ≠ tgN t q ∧ bd (t 46 q) 0 99 := by
  obtain ⟨-, h12, ei⟩ := ndm_ok hJ
  obtain ⟨-, -, ej⟩ := nld_ok hJ
  obtain ⟨⟨a1, a2, a3⟩, a4⟩ := (J_D hJ).2.2 q (by omega)
  obtain ⟨b1, b2⟩ := (J_X hJ).1 q (by omega)
  have c1 := a1.1
  have c2 := a2.1
  refine ⟨by omega, nn_x c1, nn_x c2, ?_, ?_, fun w => a3 ?_, a4⟩
  · show (t 44 q).toInt.toNat < nld t; omega
  · show (t 45 q).toInt.toNat < nld t; omega
  · have : (t 44 q).toInt.toNat = (t 45 q).toInt.toNat := w
    exact Int32.toInt_inj.mp (by omega)
def opL (rl : Nat → Int32) (m : Int32) (l : Nat) : Bool := !decide (rl l < m)
noncomputable def ldP (t : mSt) (rl : Nat → Int32) (q : Nat) : List Nat := pthL t (opL rl (t 46 q)) (fun _ => 0) 0 (srN t q) (tgN t q)
def sbN (rl : Nat → Int32) (m : Int32) (L : List Nat) : Nat → (Nat → Int32)
  | 0 => rl
  | i + 1 => upd (sbN rl m L i) (L.getD i 0) (sbN rl m L i (L.getD i 0) - m)
noncomputable def LDr (t : mSt) (rl : Nat → Int32) : Nat → (Nat → Int32)
  | 0 => rl
  | q + 1 => if t 46 q = 0 then LDr t rl q else sbN (LDr t rl q) (t 46 q) (ldP t (LDr t rl q) q) (ldP t (LDr t rl q) q).length
noncomputable def ldW (t : mSt) (rl : Nat → Int32) (q : Nat) : List Nat := if t 46 q = 0 then [] else ldP t (LDr t rl q) q
/-- lost, its bits, gone -/
noncomputable def lsV (t : mSt) (rl : Nat → Int32) : Nat → Int32
  | 0 => 0
  | q + 1 => if t 46 q = 0 then lsV t rl q else if (ldW t rl q).length = 0 then lsV t rl q + t 46 q else lsV t rl q
noncomputable def lbV (t : mSt) (rl : Nat → Int32) : Nat → Int32
  | 0 => 0
  | q + 1 => if t 46 q = 0 then lbV t rl q else if (ldW t rl q).length = 0 then lbV t rl q ||| bit q else lbV t rl q
noncomputable def gnV (t : mSt) (rl : Nat → Int32) : Nat → Int32
  | 0 => 0
  | q + 1 => if t 46 q = 0 then gnV t rl q else if (ldW t rl q).length = 0 then gnV t rl q else gnV t rl q + t 46 q
def tL : List Nat := [47, 49, 50, 51, 54, 55, 56, 57, 58, 59, 60, 61, 62, 63, 64, 65, 66]
theorem tL_way {q : Nat} (hq : q < 12) : tL.contains (54 + q) = true := by
  have : ∀ q < 12, tL.contains (54 + q) = true := by decide
  exact this q hq
theorem only_Ch {s s' : mSt} {q : Nat} (hq : q < 12) (h : ∀ b, b ≠ 54 + q → b ≠ 66 → s' b = s b) : Ch tL [] s s' := by
  refine ⟨fun b hb _ => h b (fun e => ?_) (fun e => ?_), fun k _ => by rw [h 183 (by omega) (by omega)]⟩
  · rw [e, tL_way hq] at hb; cases hb
  · rw [e] at hb; cases hb
theorem Ch1 {s s' : mSt} {x b : Nat} (h : Ch [x] [] s s') (hb : b ≠ x) : s' b = s b := by
  by_cases e : b = 183
  · subst e
    funext k
    exact h.2 k rfl
  · refine h.1 b ?_ ?_
    · simpa using hb
    · cases w : Nat.beq b 183 with
      | false => rfl
      | true => exact absurd (Nat.eq_of_beq_eq_true w) e
section LDS
variable {t s : mSt}
theorem leadOneC (hJ : J t) (hK : K t s) {rl : Nat → Int32} (h49 : ∀ l, l < nln t → s 49 l = rl l) {q : Nat} (hq : q < ndm t) : ∃ s', tr_leadOne s (nn q) = rV s' ∧ Ch tL [] s s' ∧ s' 47 = s 47 ∧ (∀ l, l < nln t → s' 49 l = sbN rl (t 46 q) (ldP t rl q) (ldP t rl q).length l) ∧ s' 66 = upd (s 66) q (nn (ldP t rl q).length) ∧ (∀ j, j < (ldP t rl q).length → s' (54 + q) j = nn ((ldP t rl q).getD j 0)) ∧ ∀ k, k ≠ q → k < 12 → s' (54 + k) = s (54 + k) := by
  obtain ⟨el, h12, -⟩ := nln_ok hJ
  obtain ⟨d1, d2, d3, d4, d5, d6, d7⟩ := dm_ok hJ hq
  rw [tr_leadOne_eq]
  -- prices
  obtain ⟨s1, e1, e2, e3⟩ := loopS (σ := mSt) (fun s1 i => tr_leadOne_2 s1 (nn q) (nn i)) (nln t) (fun i s1 => Ch [50] [] s s1 ∧ ∀ j, j < i → s1 50 j = if opL rl (t 46 q) j = true then nn (0 * 0 + 1) else 0) (i0 := 0) (s0 := s) (fun i s1 hi hI => by
    show ∃ s', tr_leadOne_2 s1 (nn q) (nn i) = tr_leadOne_2 s' (nn q) (nn (i + 1)) ∧ _
    obtain ⟨c1, c2⟩ := hI
    have hK1 : K t s1 := K_ch c1 rfl rfl hK
    refine ⟨wr s1 50 i (if opL rl (t 46 q) i = true then nn (0 * 0 + 1) else 0), ?_, Ch_w rfl rfl c1, fun j hj => ?_⟩
    · rw [tr_leadOne_2_eq s1 (nn q) (nn i), K_at hK1 25 rfl, el, if_neg (nle hi (by omega)), nn_b (i := i) (n := 12) (by omega) (by decide), nn_b (i := q) (n := 12) d1 (by decide)]
      simp only [gd_t]
      rw [nn_n (by omega), nn_n (by omega), K_at hK1 46 rfl, c1.1 49 rfl rfl, h49 i hi, nn_s]
      unfold opL
      by_cases w : rl i < t 46 q
      · rw [if_pos w, decide_eq_true w, if_neg (by decide)]
      · rw [if_neg w, decide_eq_false w, if_pos (by decide)]; rfl
    · rw [wr_at]
      by_cases e : j = i
      · rw [e, upd_at]
      · rw [upd_ne e]; exact c2 j (by omega)) (by omega) ⟨Ch_rf, fun j hj => by omega⟩
  have e1 : tr_leadOne_2 s (nn q) (nn 0) = tr_leadOne_2 s1 (nn q) (nn (nln t)) := e1
  have K1 : K t s1 := K_ch e2 rfl rfl hK
  have hA : ∀ l : Nat, (fun _ : Nat => 0) l ≤ 1189 := fun _ => Nat.zero_le _
  have hw := w_lt (a := fun _ => 0) (c := 0) hA (by omega)
  have hI : ∀ v x, v < nld t → mc (edE t (opL rl (t 46 q))) (fun _ => 0) (tgN t q) 0 v x → x < 1000000 := mc_lt hJ hA (by omega)
  obtain ⟨s2, f1, f2, dd, f3, f4⟩ := measureC hJ K1 (op := opL rl (t 46 q)) (a := fun _ => 0) (c := 0) (tgt := tgN t q) e3 hw d5
  have K2 : K t s2 := K_ch f2 rfl rfl K1
  obtain ⟨s3, g1, g2, g3, g4⟩ := followC hJ K2 (fun l hl => by rw [f2.1 50 rfl rfl]; exact e3 l hl) hw f3 f4 (fun v x h1 h2 => by have := hI v x h1 h2; omega) d1 d3 d5 d2 d4
  have c3 : Ch tL [] s2 s3 := only_Ch d1 g2
  have K3 : K t s3 := K_ch c3 rfl rfl K2
  have c03 : Ch tL [] s s3 := Ch_tr (Ch_tr (Ch_sub e2 rfl rfl) (Ch_sub f2 rfl rfl)) c3
  have eP : ldP t rl q = pthL t (opL rl (t 46 q)) (fun _ => 0) 0 (srN t q) (tgN t q) := rfl
  rw [← eP] at g3 g4
  have hmem : ∀ l, l ∈ ldP t rl q → l < nln t ∧ _ := pth_mem hJ d4
  have hlen : (ldP t rl q).length ≤ 7 := pth_len
  generalize ldP t rl q = L at *
  have hget : ∀ i, i < L.length → L.getD i 0 < nln t := fun i hi => by
    rw [List.getD_eq_getElem?_getD, List.getElem?_eq_getElem hi]
    exact (hmem _ (List.getElem_mem hi)).1
  -- the room that is taken
  obtain ⟨s4, k1, k2, k3⟩ := loopS (σ := mSt) (fun s1 i => tr_leadOne_68 s1 (nn q) (nn i)) L.length (fun i s1 => Ch [49] [] s3 s1 ∧ ∀ l, l < nln t → s1 49 l = sbN rl (t 46 q) L i l) (i0 := 0) (s0 := s3) (fun i s1 hi hI' => by
    show ∃ s', tr_leadOne_68 s1 (nn q) (nn i) = tr_leadOne_68 s' (nn q) (nn (i + 1)) ∧ _
    obtain ⟨c1, c2⟩ := hI'
    have hK1 : K t s1 := K_ch c1 rfl rfl K3
    have h66 : s1 66 q = nn L.length := by rw [c1.1 66 rfl rfl, g3, upd_at]
    have hrow : s1 (54 + q) i = nn (L.getD i 0) := by
      rw [Ch1 c1 (by omega)]
      exact g4 i hi
    have hg := hget i hi
    refine ⟨wr s1 49 (L.getD i 0) (s1 49 (L.getD i 0) - t 46 q), ?_, Ch_w rfl rfl c1, fun l hl => ?_⟩
    · rw [tr_leadOne_68_eq s1 (nn q) (nn i), nn_b (i := q) (n := 12) d1 (by decide), gd_t, nn_n (by omega), h66, if_neg (nle hi (by omega)), blt_t d1, nn_b (i := i) (n := 7) (by omega) (by decide)]
      simp only [gd_t]
      rw [nn_n (by omega), hrow, nn_b (i := L.getD i 0) (n := 12) (by omega) (by decide), gd_t, gd_t, nn_n (by omega), K_at hK1 46 rfl, nn_s]
    · rw [wr_at]
      show _ = upd (sbN rl (t 46 q) L i) (L.getD i 0) (sbN rl (t 46 q) L i (L.getD i 0) - t 46 q) l
      by_cases e : l = L.getD i 0
      · rw [e, upd_at, upd_at, c2 _ hg]
      · rw [upd_ne e, upd_ne e]; exact c2 l hl) (by omega) ⟨Ch_rf, fun l hl => by
      show s3 49 l = rl l
      rw [g2 49 (by omega) (by omega), Ch1 f2 (by omega), Ch1 e2 (by omega)]
      exact h49 l hl⟩
  have k1 : tr_leadOne_68 s3 (nn q) (nn 0) = tr_leadOne_68 s4 (nn q) (nn L.length) := k1
  have h66 : s4 66 q = nn L.length := by rw [Ch1 k2 (by omega), g3, upd_at]
  refine ⟨s4, ?_, Ch_tr c03 (Ch_sub k2 rfl rfl), ?_, k3, ?_, fun j hj => ?_, fun k hk hk2 => ?_⟩
  · refine e1.trans ?_
    rw [tr_leadOne_2_eq, K_at K1 25 rfl, el, if_pos (yle (Nat.le_refl _) (by omega)), nn_b (i := q) (n := 12) d1 (by decide), gd_t, nn_n (by omega), K_at K1 45 rfl, d3, f1, bV_rV, g1, bV_rV]
    refine k1.trans ?_
    rw [tr_leadOne_68_eq, nn_b (i := q) (n := 12) d1 (by decide), gd_t, nn_n (by omega), h66, if_pos (yle (Nat.le_refl _) (by omega))]
  · rw [Ch1 k2 (by omega), g2 47 (by omega) (by omega), Ch1 f2 (by omega), Ch1 e2 (by omega)]
  · rw [Ch1 k2 (by omega), g3, Ch1 f2 (by omega), Ch1 e2 (by omega)]
  · rw [Ch1 k2 (by omega)]
    exact g4 j hj
  · rw [Ch1 k2 (by omega), g2 (54 + k) (by omega) (by omega), Ch1 f2 (by omega), Ch1 e2 (by omega)]
/-- LED by the class: x the line that has no room (or none) -/
theorem leadC (hJ : J t) (hK : K t s) {R : Nat → Int32} (h48 : ∀ l, l < nln t → s 48 l = R l) (x : Int32) : ∃ s', tr_lead s x = rI (lsV t (fun l => if nn l = x then 0 else R l) (ndm t)) s' ∧ Ch tL [] s s' ∧ s' 47 11 = gnV t (fun l => if nn l = x then 0 else R l) (ndm t) ∧ s' 47 12 = lbV t (fun l => if nn l = x then 0 else R l) (ndm t) ∧ (∀ l, l < nln t → s' 49 l = LDr t (fun l => if nn l = x then 0 else R l) (ndm t) l) ∧ ∀ q, q < ndm t → s' 66 q = nn (ldW t (fun l => if nn l = x then 0 else R l) q).length ∧ ∀ j, j < (ldW t (fun l => if nn l = x then 0 else R l) q).length → s' (54 + q) j = nn ((ldW t (fun l => if nn l = x then 0 else R l) q).getD j 0) := by
  obtain ⟨el, h12, -⟩ := nln_ok hJ
  obtain ⟨ed, hd12, -⟩ := ndm_ok hJ
  generalize hrl : (fun l => if nn l = x then 0 else R l) = rl
  rw [tr_lead_eq]
  obtain ⟨s1, e1, e2, e3⟩ := loopS (σ := mSt) (fun s1 i => tr_lead_2 s1 x (nn i)) (nln t) (fun i s1 => Ch [49] [] s s1 ∧ ∀ j, j < i → s1 49 j = rl j) (i0 := 0) (s0 := s) (fun i s1 hi hI => by
    show ∃ s', tr_lead_2 s1 x (nn i) = tr_lead_2 s' x (nn (i + 1)) ∧ _
    obtain ⟨c1, c2⟩ := hI
    have hK1 : K t s1 := K_ch c1 rfl rfl hK
    refine ⟨wr s1 49 i (rl i), ?_, Ch_w rfl rfl c1, fun j hj => ?_⟩
    · rw [tr_lead_2_eq s1 x (nn i), K_at hK1 25 rfl, el, if_neg (nle hi (by omega)), nn_b (i := i) (n := 12) (by omega) (by decide)]
      simp only [gd_t]
      rw [nn_n (by omega), c1.1 48 rfl rfl, h48 i hi, nn_s, ← hrl]
      show _ = tr_lead_2 (wr s1 49 i (if nn i = x then 0 else R i)) x (nn (i + 1))
      by_cases w : nn i = x
      · rw [if_pos w, if_pos w]
      · rw [if_neg w, if_neg w]
    · rw [wr_at]
      by_cases e : j = i
      · rw [e, upd_at]
      · rw [upd_ne e]; exact c2 j (by omega)) (by omega) ⟨Ch_rf, fun j hj => by omega⟩
  have e1 : tr_lead_2 s x (nn 0) = tr_lead_2 s1 x (nn (nln t)) := e1
  have K1 : K t s1 := K_ch e2 rfl rfl hK
  obtain ⟨⟨s2, c⟩, f1, f2, f3, f4, f5, f6, f7⟩ := loopS (σ := mSt × Int32) (fun p q => tr_lead_54 p.1 p.2 (nn q)) (ndm t) (fun q p => Ch tL [] s p.1 ∧ p.1 47 11 = gnV t rl q ∧ p.1 47 12 = lbV t rl q ∧ (∀ l, l < nln t → p.1 49 l = LDr t rl q l) ∧ p.2 = lsV t rl q ∧ ∀ k, k < q → p.1 66 k = nn (ldW t rl k).length ∧ ∀ j, j < (ldW t rl k).length → p.1 (54 + k) j = nn ((ldW t rl k).getD j 0)) (i0 := 0) (s0 := (wr (wr s1 47 11 0) 47 12 0, 0)) (fun q p hq hI => by
    obtain ⟨s2, c⟩ := p
    show ∃ p' : mSt × Int32, tr_lead_54 s2 c (nn q) = tr_lead_54 p'.1 p'.2 (nn (q + 1)) ∧ _
    obtain ⟨i1, i2, i3, i4, i5, i6⟩ := hI
    have i1 : Ch tL [] s s2 := i1
    have i2 : s2 47 11 = gnV t rl q := i2
    have i3 : s2 47 12 = lbV t rl q := i3
    have i4 : ∀ l, l < nln t → s2 49 l = LDr t rl q l := i4
    have i5 : c = lsV t rl q := i5
    have i6 : ∀ k, k < q → s2 66 k = nn (ldW t rl k).length ∧ ∀ j, j < (ldW t rl k).length → s2 (54 + k) j = nn ((ldW t rl k).getD j 0) := i6
    have hK2 : K t s2 := K_ch i1 rfl rfl hK
    obtain ⟨d1, d2, d3, d4, d5, d6, d7⟩ := dm_ok hJ hq
    have eG : gnV t rl (q + 1) = if t 46 q = 0 then gnV t rl q else if (ldW t rl q).length = 0 then gnV t rl q else gnV t rl q + t 46 q := rfl
    have eB : lbV t rl (q + 1) = if t 46 q = 0 then lbV t rl q else if (ldW t rl q).length = 0 then lbV t rl q ||| bit q else lbV t rl q := rfl
    have eS : lsV t rl (q + 1) = if t 46 q = 0 then lsV t rl q else if (ldW t rl q).length = 0 then lsV t rl q + t 46 q else lsV t rl q := rfl
    have eD : LDr t rl (q + 1) = if t 46 q = 0 then LDr t rl q else sbN (LDr t rl q) (t 46 q) (ldP t (LDr t rl q) q) (ldP t (LDr t rl q) q).length := rfl
    have eW : ldW t rl q = if t 46 q = 0 then [] else ldP t (LDr t rl q) q := rfl
    rw [tr_lead_54_eq s2 c (nn q), K_at hK2 43 rfl, ed, if_neg (nle hq (by omega)), nn_b (i := q) (n := 12) d1 (by decide), gd_t, gd_t, nn_n (by omega), K_at hK2 46 rfl, nn_s, eG, eB, eS, eD]
    by_cases z : t 46 q = 0
    · rw [if_pos z, if_pos z, if_pos z, if_pos z, if_pos z]
      rw [if_pos z] at eW
      refine ⟨(wr s2 66 q 0, c), rfl, Ch_w rfl rfl i1, ?_, ?_, ?_, i5, fun k hk => ?_⟩
      · show wr s2 66 q 0 47 11 = _
        rw [wr_ne _ _ _ (by omega)]; exact i2
      · show wr s2 66 q 0 47 12 = _
        rw [wr_ne _ _ _ (by omega)]; exact i3
      · intro l hl
        show wr s2 66 q 0 49 l = _
        rw [wr_ne _ _ _ (by omega)]; exact i4 l hl
      · show wr s2 66 q 0 66 k = _ ∧ ∀ j, _ → wr s2 66 q 0 (54 + k) j = _
        rw [wr_at]
        by_cases e : k = q
        · subst e
          rw [upd_at, eW]
          exact ⟨rfl, fun j hj => by have : ([] : List Nat).length = 0 := rfl; omega⟩
        · rw [upd_ne e, wr_ne _ _ _ (by omega)]
          exact i6 k (by omega)
    · rw [if_neg z, if_neg z, if_neg z, if_neg z, if_neg z]
      rw [if_neg z] at eW
      have cw : Ch tL [] s2 (wr s2 66 q 0) := Ch_w rfl rfl Ch_rf
      obtain ⟨s3, g1, g2, g3, g4, g5, g6, g7⟩ := leadOneC hJ (K_ch cw rfl rfl hK2) (rl := LDr t rl q) (fun l hl => by rw [wr_ne _ _ _ (by omega)]; exact i4 l hl) hq
      have K3 : K t s3 := K_ch g2 rfl rfl (K_ch cw rfl rfl hK2)
      have c3 : Ch tL [] s s3 := Ch_tr (Ch_tr i1 cw) g2
      have h66 : s3 66 q = nn (ldW t rl q).length := by rw [g5, upd_at, eW]
      have hlen : (ldW t rl q).length ≤ 7 := by rw [eW]; exact pth_len
      have h47 : s3 47 = s2 47 := by rw [g3, wr_ne _ _ _ (by omega)]
      have hall : ∀ k, k < q + 1 → s3 66 k = nn (ldW t rl k).length ∧ ∀ j, j < (ldW t rl k).length → s3 (54 + k) j = nn ((ldW t rl k).getD j 0) := fun k hk => by
        by_cases e : k = q
        · subst e
          exact ⟨h66, fun j hj => by rw [eW] at hj ⊢; exact g6 j hj⟩
        · rw [g5, upd_ne e, wr_at, upd_ne e, g7 k e (by omega), wr_ne _ _ _ (by omega)]
          exact i6 k (by omega)
      rw [← eW] at g4
      rw [g1, bV_rV, h66, h47, i2, i3, K_at K3 46 rfl, ← eW]
      simp only [gd_t]
      by_cases y : (ldW t rl q).length = 0
      · rw [if_pos y, if_pos y, if_pos y, if_pos (by rw [y]; rfl)]
        refine ⟨(wr s3 47 12 (lbV t rl q ||| bit q), c + t 46 q), rfl, Ch_w rfl rfl c3, ?_, ?_, ?_, ?_, ?_⟩
        · show wr s3 47 12 (lbV t rl q ||| bit q) 47 11 = _
          rw [wr_at, upd_ne (by omega), h47]; exact i2
        · show upd (s3 47) 12 (lbV t rl q ||| bit q) 12 = lbV t rl q ||| bit q
          exact upd_at
        · intro l hl
          show wr s3 47 12 (lbV t rl q ||| bit q) 49 l = _
          rw [wr_ne _ _ _ (by omega)]; exact g4 l hl
        · show c + t 46 q = _
          rw [i5]
        · intro k hk
          show wr s3 47 12 (lbV t rl q ||| bit q) 66 k = _ ∧ ∀ j, _ → wr s3 47 12 (lbV t rl q ||| bit q) (54 + k) j = _
          rw [wr_ne _ _ _ (by omega), wr_ne _ _ _ (by omega)]
          exact hall k hk
      · rw [if_neg y, if_neg y, if_neg y, if_neg (show ¬ nn (ldW t rl q).length = 0 from fun w => y ((nn_eq (j := 0) (by omega) (by omega)).mp w))]
        refine ⟨(wr s3 47 11 (gnV t rl q + t 46 q), c), rfl, Ch_w rfl rfl c3, ?_, ?_, ?_, i5, ?_⟩
        · show upd (s3 47) 11 (gnV t rl q + t 46 q) 11 = gnV t rl q + t 46 q
          exact upd_at
        · show wr s3 47 11 (gnV t rl q + t 46 q) 47 12 = _
          rw [wr_at, upd_ne (by omega), h47]; exact i3
        · intro l hl
          show wr s3 47 11 (gnV t rl q + t 46 q) 49 l = _
          rw [wr_ne _ _ _ (by omega)]; exact g4 l hl
        · intro k hk
          show wr s3 47 11 (gnV t rl q + t 46 q) 66 k = _ ∧ ∀ j, _ → wr s3 47 11 (gnV t rl q + t 46 q) (54 + k) j = _
          rw [wr_ne _ _ _ (by omega), wr_ne _ _ _ (by omega)]
          exact hall k hk) (by omega) ⟨Ch_w rfl rfl (Ch_w rfl rfl (Ch_sub e2 rfl rfl)), rfl, rfl, fun l hl => by
      show wr (wr s1 47 11 0) 47 12 0 49 l = rl l
      rw [wr_ne _ _ _ (by omega), wr_ne _ _ _ (by omega)]
      exact e3 l hl, rfl, fun k hk => by omega⟩
  have f1 : tr_lead_54 (wr (wr s1 47 11 0) 47 12 0) 0 (nn 0) = tr_lead_54 s2 c (nn (ndm t)) := f1
  have f2 : Ch tL [] s s2 := f2
  have f6 : c = lsV t rl (ndm t) := f6
  have K2 : K t s2 := K_ch f2 rfl rfl hK
  refine ⟨s2, ?_, f2, f3, f4, f5, f7⟩
  refine e1.trans ?_
  rw [tr_lead_2_eq, K_at K1 25 rfl, el, if_pos (yle (Nat.le_refl _) (by omega))]
  refine f1.trans ?_
  rw [tr_lead_54_eq, K_at K2 43 rfl, ed, if_pos (yle (Nat.le_refl _) (by omega)), f6]
end LDS
