/-! LED by the reference -/
def mL2 : List Nat := [202, 203, 204, 205, 206]
section LMS
variable {t s : mSt}
def adN (ld : Nat → Int32) (m : Int32) (L : List Nat) : Nat → (Nat → Int32)
  | 0 => ld
  | i + 1 => upd (adN ld m L i) (L.getD i 0) (adN ld m L i (L.getD i 0) + m)
theorem ad_sb {rl0 ld rl : Nat → Int32} {m : Int32} {L : List Nat} {l : Nat} : ∀ i, (∀ k, k = l ∨ k ∈ L ∨ k = 0 → rl0 k - ld k = rl k) → rl0 l - adN ld m L i l = sbN rl m L i l := by
  intro i
  induction i generalizing l with
  | zero => exact fun h => h l (Or.inl rfl)
  | succ i ih =>
    intro h
    show rl0 l - upd (adN ld m L i) (L.getD i 0) (adN ld m L i (L.getD i 0) + m) l = upd (sbN rl m L i) (L.getD i 0) (sbN rl m L i (L.getD i 0) - m) l
    by_cases e : l = L.getD i 0
    · rw [e, upd_at, upd_at, ← ih (l := L.getD i 0) (fun k hk => by
        rcases hk with hk | hk | hk
        · rw [← e] at hk; exact h k (Or.inl hk)
        · exact h k (Or.inr (Or.inl hk))
        · exact h k (Or.inr (Or.inr hk))), Int32.sub_sub]
    · rw [upd_ne e, upd_ne e]
      exact ih h
theorem leadsM (hJ : J t) (hK : K t s) {rl : Nat → Int32} (h201 : ∀ l, l < nln t → s 201 l = rl l) : ∃ s', mo_leads s = rI (lsV t rl (ndm t)) s' ∧ Ch mL2 [35, 36] s s' ∧ s' 183 36 = lsV t rl (ndm t) ∧ s' 183 35 = lbV t rl (ndm t) ∧ (∀ l, l < nln t → rl l - s' 202 l = LDr t rl (ndm t) l) ∧ ∀ q, q < ndm t → s' 203 q = wlV (ldW t rl q) ∧ ∀ j, j < (ldW t rl q).length → s' 204 (8 * q + j) = nn ((ldW t rl q).getD j 0) := by
  obtain ⟨el, h12, -⟩ := nln_ok hJ
  obtain ⟨ed, hd12, -⟩ := ndm_ok hJ
  have em3 := (J_N hJ).1.2.1.1
  have em27 := (J_D hJ).1.1
  obtain ⟨-, ⟨pd1, pd2, pd3⟩, -⟩ := id (J_D hJ)
  rw [mo_leads_eq]
  have c0 : Ch mL2 [35, 36] s (wr (wr s 183 36 0) 183 35 0) := Ch_m rfl (Ch_m rfl Ch_rf)
  obtain ⟨s1, e1, e2, e3, e4⟩ := loopS (σ := mSt) (fun s1 i => mo_leads_12 s1 (nn i)) (nln t) (fun i s1 => Ch mL2 [35, 36] s s1 ∧ (∀ j, j < i → s1 202 j = 0) ∧ s1 183 36 = 0 ∧ s1 183 35 = 0) (i0 := 0) (s0 := wr (wr s 183 36 0) 183 35 0) (fun i s1 hi hI => by
    show ∃ s', mo_leads_12 s1 (nn i) = mo_leads_12 s' (nn (i + 1)) ∧ _
    obtain ⟨c1, c2, c3, c4⟩ := hI
    have hK1 : K t s1 := K_ch c1 rfl rfl hK
    refine ⟨wr s1 202 i 0, ?_, Ch_w rfl rfl c1, fun j hj => ?_, c3, c4⟩
    · rw [mo_leads_12_eq s1 (nn i), K_m hK1 3 rfl, em3, el, if_neg (nle hi (by omega)), nn_b (i := i) (n := 12) (by omega) (by decide), gd_t, nn_n (by omega), nn_s]
    · rw [wr_at]
      by_cases e : j = i
      · rw [e, upd_at]
      · rw [upd_ne e]; exact c2 j (by omega)) (by omega) ⟨c0, fun j hj => by omega, rfl, rfl⟩
  have e1 : mo_leads_12 (wr (wr s 183 36 0) 183 35 0) (nn 0) = mo_leads_12 s1 (nn (nln t)) := e1
  have K1 : K t s1 := K_ch e2 rfl rfl hK
  obtain ⟨s2, f1, f2, f3, f4, f5, f6⟩ := loopS (σ := mSt) (fun s2 q => mo_leads_35 s2 (nn q)) (ndm t) (fun q s2 => Ch mL2 [35, 36] s s2 ∧ s2 183 36 = lsV t rl q ∧ s2 183 35 = lbV t rl q ∧ (∀ l, l < nln t → rl l - s2 202 l = LDr t rl q l) ∧ ∀ k, k < q → s2 203 k = wlV (ldW t rl k) ∧ ∀ j, j < (ldW t rl k).length → s2 204 (8 * k + j) = nn ((ldW t rl k).getD j 0)) (i0 := 0) (s0 := s1) (fun q s2 hq hI => by
    show ∃ s', mo_leads_35 s2 (nn q) = mo_leads_35 s' (nn (q + 1)) ∧ _
    obtain ⟨i1, i2, i3, i4, i6⟩ := hI
    have hK2 : K t s2 := K_ch i1 rfl rfl hK
    obtain ⟨d1, d2, d3, d4, d5, d6, d7⟩ := dm_ok hJ hq
    have eB : lbV t rl (q + 1) = if t 46 q = 0 then lbV t rl q else if (ldW t rl q).length = 0 then lbV t rl q ||| bit q else lbV t rl q := rfl
    have eS : lsV t rl (q + 1) = if t 46 q = 0 then lsV t rl q else if (ldW t rl q).length = 0 then lsV t rl q + t 46 q else lsV t rl q := rfl
    have eD : LDr t rl (q + 1) = if t 46 q = 0 then LDr t rl q else sbN (LDr t rl q) (t 46 q) (ldP t (LDr t rl q) q) (ldP t (LDr t rl q) q).length := rfl
    have eW : ldW t rl q = if t 46 q = 0 then [] else ldP t (LDr t rl q) q := rfl
    have z0 : t 46 q ≤ 0 ↔ t 46 q = 0 := by
      have := d7.1
      have u0 : (0 : Int32).toInt = 0 := rfl
      rw [Int32.le_iff_toInt_le, ← Int32.toInt_inj]
      omega
    rw [mo_leads_35_eq s2 (nn q), K_m hK2 27 rfl, em27, ed, if_neg (nle hq (by omega)), nn_b (i := q) (n := 12) d1 (by decide), gd_t, gd_t, nn_n (by omega), K_at hK2 200 rfl, pd3, nn_s, eB, eS, eD]
    by_cases z : t 46 q = 0
    · rw [if_pos (z0.mpr z), if_pos z, if_pos z, if_pos z]
      rw [if_pos z] at eW
      refine ⟨wr s2 203 q (-4), rfl, Ch_w rfl rfl i1, i2, i3, fun l hl => ?_, fun k hk => ?_⟩
      · rw [wr_ne _ _ _ (by omega)]; exact i4 l hl
      · rw [wr_at, wr_ne _ _ _ (by omega)]
        by_cases e : k = q
        · subst e
          rw [upd_at, eW]
          exact ⟨rfl, fun j hj => by have : ([] : List Nat).length = 0 := rfl; omega⟩
        · rw [upd_ne e]
          exact i6 k (by omega)
    · rw [if_neg (fun w => z (z0.mp w)), if_neg z, if_neg z, if_neg z]
      rw [if_neg z] at eW
      -- weighing
      obtain ⟨s3, g1, g2, g3⟩ := loopS (σ := mSt) (fun s3 i => mo_leads_62 s3 (nn q) (nn i)) (nln t) (fun i s3 => Ch [206] [] (wr s2 203 q (-4)) s3 ∧ ∀ j, j < i → s3 206 j = if opL (LDr t rl q) (t 46 q) j = true then nn (0 * 0 + 1) else -1) (i0 := 0) (s0 := wr s2 203 q (-4)) (fun i s3 hi hI' => by
        show ∃ s', mo_leads_62 s3 (nn q) (nn i) = mo_leads_62 s' (nn q) (nn (i + 1)) ∧ _
        obtain ⟨c1, c2⟩ := hI'
        have cw : Ch mL2 [35, 36] s2 s3 := Ch_tr (Ch_w rfl rfl Ch_rf) (Ch_sub c1 rfl rfl)
        have hK3 : K t s3 := K_ch cw rfl rfl hK2
        have h1 : s3 201 i = rl i := by
          rw [(Ch_tr i1 cw).1 201 rfl rfl]; exact h201 i hi
        have h2 : s3 202 = s2 202 := by rw [Ch1 c1 (by omega), wr_ne _ _ _ (by omega)]
        refine ⟨wr s3 206 i (if opL (LDr t rl q) (t 46 q) i = true then nn (0 * 0 + 1) else -1), ?_, Ch_w rfl rfl c1, fun j hj => ?_⟩
        · rw [mo_leads_62_eq s3 (nn q) (nn i), K_m hK3 3 rfl, em3, el, if_neg (nle hi (by omega)), nn_b (i := i) (n := 12) (by omega) (by decide), nn_b (i := q) (n := 12) d1 (by decide)]
          simp only [gd_t]
          rw [nn_n (by omega), nn_n (by omega), K_at hK3 200 rfl, pd3, h1, h2, i4 i hi, nn_s]
          unfold opL
          by_cases w : LDr t rl q i < t 46 q
          · rw [if_pos w, decide_eq_true w, if_neg (by decide)]
          · rw [if_neg w, decide_eq_false w, if_pos (by decide)]; rfl
        · rw [wr_at]
          by_cases e : j = i
          · rw [e, upd_at]
          · rw [upd_ne e]; exact c2 j (by omega)) (by omega) ⟨Ch_rf, fun j hj => by omega⟩
      have g1 : mo_leads_62 (wr s2 203 q (-4)) (nn q) 0 = mo_leads_62 s3 (nn q) (nn (nln t)) := g1
      have c3 : Ch mL2 [35, 36] s s3 := Ch_tr (Ch_w rfl rfl i1) (Ch_sub g2 rfl rfl)
      have K3 : K t s3 := K_ch c3 rfl rfl hK
      obtain ⟨s4, k1, k2, k3, k4, k5⟩ := findWayM hJ K3 (op := opL (LDr t rl q) (t 46 q)) (a := fun _ => 0) (c := 0) g3 (fun _ => Nat.zero_le _) (by omega) d1 d3 d5 d2 d4 d6
      have eP : pthL t (opL (LDr t rl q) (t 46 q)) (fun _ => 0) 0 (srN t q) (tgN t q) = ldW t rl q := by rw [eW]; rfl
      rw [eP] at k3 k4
      rw [← eW]
      have c4 : Ch mL2 [35, 36] s s4 := Ch_tr c3 (Ch_sub k2 rfl rfl)
      have K4 : K t s4 := K_ch c4 rfl rfl hK
      have hlen : (ldW t rl q).length ≤ 7 := by rw [← eP]; exact pth_len
      have hmem : ∀ l, l ∈ ldW t rl q → l < nln t := fun l hl => by rw [← eP] at hl; exact (pth_mem hJ d4 l hl).1
      have h203 : s3 203 = upd (s2 203) q (-4) := by rw [Ch1 g2 (by omega), wr_at]
      have h204 : s3 204 = s2 204 := by rw [Ch1 g2 (by omega), wr_ne _ _ _ (by omega)]
      have h202 : s4 202 = s2 202 := by rw [k2.1 202 rfl rfl, Ch1 g2 (by omega), wr_ne _ _ _ (by omega)]
      have h183 : ∀ k, s4 183 k = s2 183 k := fun k => by rw [k2.2 k rfl, g2.2 k rfl, wr_ne _ _ _ (by omega)]
      have h4q : s4 203 q = wlV (ldW t rl q) := by rw [k3, upd_at]
      have hall : ∀ k, k < q + 1 → s4 203 k = wlV (ldW t rl k) ∧ ∀ j, j < (ldW t rl k).length → s4 204 (8 * k + j) = nn ((ldW t rl k).getD j 0) := fun k hk => by
        by_cases e : k = q
        · subst e
          exact ⟨h4q, k4⟩
        · have hl7 : (ldW t rl k).length ≤ 7 := by
            show (if t 46 k = 0 then [] else ldP t (LDr t rl k) k).length ≤ 7
            split
            · exact Nat.zero_le _
            · exact pth_len
          rw [k3, upd_ne e, h203, upd_ne e]
          exact ⟨(i6 k (by omega)).1, fun j hj => by rw [k5 _ (by omega), h204]; exact (i6 k (by omega)).2 j hj⟩
      generalize hL : ldW t rl q = L at *
      have hget : ∀ i, i < L.length → L.getD i 0 < nln t := fun i hi => by
        rw [List.getD_eq_getElem?_getD, List.getElem?_eq_getElem hi]
        exact hmem _ (List.getElem_mem hi)
      -- the rest, from a state that holds lost and its bits
      have rest : ∀ g : mSt, Ch [] [35, 36] s4 g → g 183 36 = (if L.length = 0 then lsV t rl q + t 46 q else lsV t rl q) → g 183 35 = (if L.length = 0 then lbV t rl q ||| bit q else lbV t rl q) → ∃ s', mo_leads_173 g (nn q) 0 = mo_leads_35 s' (nn (q + 1)) ∧ Ch mL2 [35, 36] s s' ∧ s' 183 36 = (if L.length = 0 then lsV t rl q + t 46 q else lsV t rl q) ∧ s' 183 35 = (if L.length = 0 then lbV t rl q ||| bit q else lbV t rl q) ∧ (∀ l, l < nln t → rl l - s' 202 l = sbN (LDr t rl q) (t 46 q) L L.length l) ∧ ∀ k, k < q + 1 → s' 203 k = wlV (ldW t rl k) ∧ ∀ j, j < (ldW t rl k).length → s' 204 (8 * k + j) = nn ((ldW t rl k).getD j 0) := fun g gc g36 g35 => by
        have i8 : (8 : Int32) * nn q = nn (8 * q) := nn_m 8 q
        have gC : Ch mL2 [35, 36] s g := Ch_tr c4 (Ch_sub gc rfl rfl)
        have ex : ∀ j, ∀ g' : mSt, Ch [202] [] g g' → g' 203 j = s4 203 j := fun j g' hc => by rw [Ch1 hc (by omega), gc.1 203 rfl rfl]
        obtain ⟨s5, m1, m2, m3⟩ := loopS (σ := mSt) (fun s5 i => mo_leads_173 s5 (nn q) (nn i)) L.length (fun i s5 => Ch [202] [] g s5 ∧ ∀ l, l < nln t → s5 202 l = adN (s2 202) (t 46 q) L i l) (i0 := 0) (s0 := g) (fun i s5 hi hI' => by
          show ∃ s', mo_leads_173 s5 (nn q) (nn i) = mo_leads_173 s' (nn q) (nn (i + 1)) ∧ _
          obtain ⟨c1, c2⟩ := hI'
          have hK5 : K t s5 := K_ch (Ch_tr gC (Ch_sub c1 rfl rfl)) rfl rfl hK
          have hg := hget i hi
          have hrow : s5 204 (8 * q + i) = nn (L.getD i 0) := by
            rw [Ch1 c1 (by omega), gc.1 204 rfl rfl]
            exact k4 i hi
          refine ⟨wr s5 202 (L.getD i 0) (s5 202 (L.getD i 0) + t 46 q), ?_, Ch_w rfl rfl c1, fun l hl => ?_⟩
          · rw [mo_leads_173_eq s5 (nn q) (nn i), nn_b (i := q) (n := 12) d1 (by decide), gd_t, gd_t, nn_n (by omega), ex q s5 c1, h4q]
            unfold wlV
            rw [if_neg (show ¬ L.length = 0 by omega), if_neg (nle hi (by omega)), i8, nn_a, nn_b (i := 8 * q + i) (n := 96) (by omega) (by decide), gd_t, nn_n (by omega), hrow, nn_b (i := L.getD i 0) (n := 12) (by omega) (by decide), gd_t, gd_t, nn_n (by omega), K_at hK5 200 rfl, pd3, nn_s]
          · rw [wr_at]
            show _ = upd (adN (s2 202) (t 46 q) L i) (L.getD i 0) (adN (s2 202) (t 46 q) L i (L.getD i 0) + t 46 q) l
            by_cases e : l = L.getD i 0
            · rw [e, upd_at, upd_at, c2 _ hg]
            · rw [upd_ne e, upd_ne e]; exact c2 l hl) (by omega) ⟨Ch_rf, fun l hl => by
              show g 202 l = s2 202 l
              rw [gc.1 202 rfl rfl, h202]⟩
        have m1 : mo_leads_173 g (nn q) 0 = mo_leads_173 s5 (nn q) (nn L.length) := m1
        refine ⟨s5, ?_, Ch_tr gC (Ch_sub m2 rfl rfl), by rw [m2.2 36 rfl]; exact g36, by rw [m2.2 35 rfl]; exact g35, fun l hl => ?_, fun k hk => ?_⟩
        · rw [m1, mo_leads_173_eq, nn_b (i := q) (n := 12) d1 (by decide), gd_t, nn_n (by omega), ex q s5 m2, h4q, nn_s]
          unfold wlV
          by_cases y : L.length = 0
          · rw [if_pos y, y, if_pos (by decide)]
          · rw [if_neg y, if_pos (yle (Nat.le_refl _) (by omega))]
        · rw [m3 l hl]
          refine ad_sb L.length (fun k hk => ?_)
          rcases hk with hk | hk | hk
          · rw [hk]; exact i4 l hl
          · exact i4 k (hmem k hk)
          · rw [hk]; exact i4 0 (by omega)
        · rw [ex k s5 m2, Ch1 m2 (by omega), gc.1 204 rfl rfl]
          exact hall k hk
      have e62 : mo_leads_62 s3 (nn q) (nn (nln t)) = mo_leads_140 s4 (nn q) (if L.length = 0 then t 46 q else 0) (lsV t rl q) := by
        rw [mo_leads_62_eq, K_m K3 3 rfl, em3, el, if_pos (yle (Nat.le_refl _) (by omega)), k1, bV_rV, nn_b (i := q) (n := 12) d1 (by decide), gd_t, gd_t, nn_n (by omega), h4q, h183 36, i2, K_at K4 200 rfl, pd3]
        unfold wlV
        by_cases y : L.length = 0
        · rw [if_pos y, if_pos y, if_pos rfl]
        · rw [if_neg y, if_neg y, if_neg (show ¬ nn L.length = -4 from fun w => by
            have := congrArg Int32.toInt w
            rw [nn_i (by omega)] at this
            have e4 : (-4 : Int32).toInt = -4 := rfl
            omega)]
      rw [g1, e62, mo_leads_140_eq, nn_b (i := q) (n := 12) d1 (by decide), gd_t, nn_n (by omega), h4q, h183 35, i3]
      by_cases y : L.length = 0
      · have w1 : wlV L = -4 := by unfold wlV; rw [if_pos y]
        rw [w1, if_pos rfl, if_pos y, if_pos y, if_pos y]
        have := rest (wr (wr s4 183 36 (lsV t rl q + t 46 q)) 183 35 (lbV t rl q ||| bit q)) (Ch_m rfl (Ch_m rfl Ch_rf)) (by rw [if_pos y]; rfl) (by rw [if_pos y]; rfl)
        rw [if_pos y, if_pos y] at this
        exact this
      · have w1 : ¬ wlV L = -4 := by
          unfold wlV
          rw [if_neg y]
          intro w
          have := congrArg Int32.toInt w
          rw [nn_i (by omega)] at this
          have e4 : (-4 : Int32).toInt = -4 := rfl
          omega
        rw [if_neg w1, if_neg y, if_neg y, if_neg y, Int32.add_zero, Int32.or_zero]
        have := rest (wr (wr s4 183 36 (lsV t rl q)) 183 35 (lbV t rl q)) (Ch_m rfl (Ch_m rfl Ch_rf)) (by rw [if_neg y]; rfl) (by rw [if_neg y]; rfl)
        rw [if_neg y, if_neg y] at this
        exact this) (by omega) ⟨e2, e4.1, e4.2, fun l hl => by rw [e3 l hl, Int32.sub_zero]; rfl, fun k hk => by omega⟩
  have f1 : mo_leads_35 s1 (nn 0) = mo_leads_35 s2 (nn (ndm t)) := f1
  have K2 : K t s2 := K_ch f2 rfl rfl hK
  refine ⟨s2, ?_, f2, f3, f4, f5, f6⟩
  refine e1.trans ?_
  rw [mo_leads_12_eq, K_m K1 3 rfl, em3, el, if_pos (yle (Nat.le_refl _) (by omega))]
  refine f1.trans ?_
  rw [mo_leads_35_eq, K_m K2 27 rfl, em27, ed, if_pos (yle (Nat.le_refl _) (by omega)), f3]
end LMS
