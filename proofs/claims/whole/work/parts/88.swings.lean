/-! the case swings -/
noncomputable def gmI (t : mSt) (k : Nat) : Nat → Int32 → Int32
  | 0, m => m
  | l + 1, m => jMax (gmI t k l m) (nn (ldS t (swA t k) l))
noncomputable def gmO (t : mSt) (j : Nat) : Nat → Int32
  | 0 => 0
  | n + 1 => gmI t (j + n) (nln t) (gmO t j n)
noncomputable def ovI (t : mSt) (k : Nat) : Nat → Int32 → Int32
  | 0, m => m
  | l + 1, m => if nn (ldS t (swA t k) l) ≤ rmV t false l then ovI t k l m ||| 0 else ovI t k l m ||| bit l
noncomputable def ovO (t : mSt) (j : Nat) : Nat → Int32
  | 0 => 0
  | n + 1 => ovI t (j + n) (nln t) (ovO t j n)
section SWS
variable {t s : mSt}
theorem greatC (hJ : J t) (hK : K t s) {k j : Nat} (hk : k < 61) (hj : j < k) (h13 : s 47 13 = nn j) (h14 : s 47 14 = nn (k - j)) (hr : rwC t (k + 1) s) : tr_greatestLoad s = rI (gmO t j (k - j)) s := by
  obtain ⟨el, h12, -⟩ := nln_ok hJ
  have hs : nn j + nn (k - j) = nn k := by rw [nn_a]; congr 1; omega
  rw [tr_greatestLoad_eq, h13]
  obtain ⟨c, e1, e2⟩ := loopS (σ := Int32) (fun c n => tr_greatestLoad_7 s c (nn (j + n))) (k - j) (fun n c => c = gmO t j n) (i0 := 0) (s0 := 0) (fun n c hn hI => by
    show ∃ c', tr_greatestLoad_7 s c (nn (j + n)) = tr_greatestLoad_7 s c' (nn (j + n + 1)) ∧ _
    obtain ⟨c', f1, f2⟩ := loopS (σ := Int32) (fun c l => tr_greatestLoad_28 s c (nn (j + n)) (nn l)) (nln t) (fun l c' => c' = gmI t (j + n) l c) (i0 := 0) (s0 := c) (fun l c' hl hI' => by
      show ∃ c'', tr_greatestLoad_28 s c' (nn (j + n)) (nn l) = tr_greatestLoad_28 s c'' (nn (j + n)) (nn (l + 1)) ∧ _
      refine ⟨jMax c' (nn (ldS t (swA t (j + n)) l)), ?_, by rw [hI']; rfl⟩
      rw [tr_greatestLoad_28_eq s c' (nn (j + n)) (nn l), K_at hK 25 rfl, el, if_neg (nle hl (by omega)), nn_b (i := j + n) (n := 61) (by omega) (by decide), gd_t, nn_n (by omega), blt_t (show j + n < 61 by omega), gd_t, nn_b (i := l) (n := 12) (by omega) (by decide), gd_t, nn_n (by omega), hr (j + n) (by omega) l hl, nn_s]) (by omega) rfl
    have f1 : tr_greatestLoad_28 s c (nn (j + n)) 0 = tr_greatestLoad_28 s c' (nn (j + n)) (nn (nln t)) := f1
    refine ⟨c', ?_, by rw [f2, hI]; rfl⟩
    rw [tr_greatestLoad_7_eq s c (nn (j + n)), h13, h14, hs, if_neg (nle (by omega) (by omega)), if_neg (show ¬ (60 : Int32) < nn (j + n) from nlt (i := 60) (by omega) (by omega)), f1, tr_greatestLoad_28_eq, K_at hK 25 rfl, el, if_pos (yle (Nat.le_refl _) (by omega)), nn_s]) (by omega) rfl
  have e1 : tr_greatestLoad_7 s 0 (nn j) = tr_greatestLoad_7 s c (nn (j + (k - j))) := e1
  rw [e1, tr_greatestLoad_7_eq, h13, h14, hs, if_pos (yle (by omega) (by omega)), e2]
theorem overC (hJ : J t) (hK : K t s) (h48 : ∀ l, l < nln t → s 48 l = rmV t false l) {k j : Nat} (hk : k < 61) (hj : j < k) (h13 : s 47 13 = nn j) (h14 : s 47 14 = nn (k - j)) (hr : rwC t (k + 1) s) : tr_overfull s = rI (ovO t j (k - j)) s := by
  obtain ⟨el, h12, -⟩ := nln_ok hJ
  have hs : nn j + nn (k - j) = nn k := by rw [nn_a]; congr 1; omega
  rw [tr_overfull_eq, h13]
  obtain ⟨c, e1, e2⟩ := loopS (σ := Int32) (fun c n => tr_overfull_7 s c (nn (j + n))) (k - j) (fun n c => c = ovO t j n) (i0 := 0) (s0 := 0) (fun n c hn hI => by
    show ∃ c', tr_overfull_7 s c (nn (j + n)) = tr_overfull_7 s c' (nn (j + n + 1)) ∧ _
    obtain ⟨c', f1, f2⟩ := loopS (σ := Int32) (fun c l => tr_overfull_28 s c (nn (j + n)) (nn l)) (nln t) (fun l c' => c' = ovI t (j + n) l c) (i0 := 0) (s0 := c) (fun l c' hl hI' => by
      show ∃ c'', tr_overfull_28 s c' (nn (j + n)) (nn l) = tr_overfull_28 s c'' (nn (j + n)) (nn (l + 1)) ∧ _
      refine ⟨if nn (ldS t (swA t (j + n)) l) ≤ rmV t false l then c' ||| 0 else c' ||| bit l, ?_, by rw [hI']; rfl⟩
      rw [tr_overfull_28_eq s c' (nn (j + n)) (nn l), K_at hK 25 rfl, el, if_neg (nle hl (by omega)), nn_b (i := j + n) (n := 61) (by omega) (by decide), gd_t, nn_n (by omega), blt_t (show j + n < 61 by omega), gd_t, nn_b (i := l) (n := 12) (by omega) (by decide), gd_t, gd_t, nn_n (by omega), hr (j + n) (by omega) l hl, h48 l hl, nn_s]
      by_cases w : nn (ldS t (swA t (j + n)) l) ≤ rmV t false l
      · rw [if_pos w, if_pos w]
      · rw [if_neg w, if_neg w]; rfl) (by omega) rfl
    have f1 : tr_overfull_28 s c (nn (j + n)) 0 = tr_overfull_28 s c' (nn (j + n)) (nn (nln t)) := f1
    refine ⟨c', ?_, by rw [f2, hI]; rfl⟩
    rw [tr_overfull_7_eq s c (nn (j + n)), h13, h14, hs, if_neg (nle (by omega) (by omega)), if_neg (show ¬ (60 : Int32) < nn (j + n) from nlt (i := 60) (by omega) (by omega)), f1, tr_overfull_28_eq, K_at hK 25 rfl, el, if_pos (yle (Nat.le_refl _) (by omega)), nn_s]) (by omega) rfl
  have e1 : tr_overfull_7 s 0 (nn j) = tr_overfull_7 s c (nn (j + (k - j))) := e1
  rw [e1, tr_overfull_7_eq, h13, h14, hs, if_pos (yle (by omega) (by omega)), e2]
theorem bothM (hJ : J t) (hK : K t s) (h201 : ∀ l, l < nln t → s 201 l = rmV t false l) (x : Int32) {k j : Nat} (hk : k < 61) (hj : j < k) (hr : rwM t (k + 1) s) : mo_swings_56 s x (nn k) (nn j) 0 0 (nn j) = rI (if x = 0 then nn j else if x = 1 then nn (k - j) else if x = 2 then gmO t j (k - j) else ovO t j (k - j)) s := by
  obtain ⟨el, h12, -⟩ := nln_ok hJ
  have em3 := (J_N hJ).1.2.1.1
  obtain ⟨⟨c, d⟩, e1, e2, e3⟩ := loopS (σ := Int32 × Int32) (fun p n => mo_swings_56 s x (nn k) (nn j) p.1 p.2 (nn (j + n))) (k - j) (fun n p => p.1 = gmO t j n ∧ p.2 = ovO t j n) (i0 := 0) (s0 := (0, 0)) (fun n p hn hI => by
    obtain ⟨c, d⟩ := p
    show ∃ p' : Int32 × Int32, mo_swings_56 s x (nn k) (nn j) c d (nn (j + n)) = mo_swings_56 s x (nn k) (nn j) p'.1 p'.2 (nn (j + n + 1)) ∧ _
    obtain ⟨i1, i2⟩ := hI
    have i1 : c = gmO t j n := i1
    have i2 : d = ovO t j n := i2
    have i12 : (12 : Int32) * nn (j + n) = nn (12 * (j + n)) := nn_m 12 (j + n)
    obtain ⟨⟨c', d'⟩, f1, f2, f3⟩ := loopS (σ := Int32 × Int32) (fun p l => mo_swings_65 s x (nn k) (nn j) p.1 p.2 (nn (j + n)) (nn l)) (nln t) (fun l p => p.1 = gmI t (j + n) l c ∧ p.2 = ovI t (j + n) l d) (i0 := 0) (s0 := (c, d)) (fun l p hl hI' => by
      obtain ⟨c', d'⟩ := p
      show ∃ p' : Int32 × Int32, mo_swings_65 s x (nn k) (nn j) c' d' (nn (j + n)) (nn l) = mo_swings_65 s x (nn k) (nn j) p'.1 p'.2 (nn (j + n)) (nn (l + 1)) ∧ _
      obtain ⟨j1, j2⟩ := hI'
      have j1 : c' = gmI t (j + n) l c := j1
      have j2 : d' = ovI t (j + n) l d := j2
      have hrow := hr (j + n) (by omega) l hl
      refine ⟨(jMax c' (nn (ldS t (swA t (j + n)) l)), if nn (ldS t (swA t (j + n)) l) ≤ rmV t false l then d' ||| 0 else d' ||| bit l), ?_, by show jMax _ _ = _; rw [j1]; rfl, by show (if _ then _ else _) = _; rw [j2]; rfl⟩
      have k110 : ∀ v, mo_swings_110 s x (nn k) (nn j) d' (nn (j + n)) (nn l) v = mo_swings_65 s x (nn k) (nn j) v (if nn (ldS t (swA t (j + n)) l) ≤ rmV t false l then d' ||| 0 else d' ||| bit l) (nn (j + n)) (nn (l + 1)) := fun v => by
        rw [mo_swings_110_eq, i12, nn_a, nn_b (i := 12 * (j + n) + l) (n := 732) (by omega) (by decide), gd_t, nn_b (i := l) (n := 12) (by omega) (by decide), gd_t, nn_n (by omega), nn_n (by omega), hrow, h201 l hl, nn_s]
        by_cases w : nn (ldS t (swA t (j + n)) l) ≤ rmV t false l
        · rw [if_pos w, if_pos w]
        · rw [if_neg w, if_neg w]; rfl
      rw [mo_swings_65_eq s x (nn k) (nn j) c' d' (nn (j + n)) (nn l), K_m hK 3 rfl, em3, el, if_neg (nle hl (by omega)), i12, nn_a, nn_b (i := 12 * (j + n) + l) (n := 732) (by omega) (by decide), gd_t, gd_t, nn_n (by omega), hrow, k110, k110]
      show _ = mo_swings_65 s x (nn k) (nn j) (jMax c' (nn (ldS t (swA t (j + n)) l))) _ (nn (j + n)) (nn (l + 1))
      unfold jMax
      by_cases w : c' < nn (ldS t (swA t (j + n)) l)
      · rw [if_pos w, if_neg (Int32.not_le.mpr w)]
      · rw [if_neg w, if_pos (Int32.not_lt.mp w)]) (by omega) ⟨rfl, rfl⟩
    have f1 : mo_swings_65 s x (nn k) (nn j) c d (nn (j + n)) 0 = mo_swings_65 s x (nn k) (nn j) c' d' (nn (j + n)) (nn (nln t)) := f1
    have f2 : c' = gmI t (j + n) (nln t) c := f2
    have f3 : d' = ovI t (j + n) (nln t) d := f3
    refine ⟨(c', d'), ?_, by show c' = _; rw [f2, i1]; rfl, by show d' = _; rw [f3, i2]; rfl⟩
    rw [mo_swings_56_eq s x (nn k) (nn j) c d (nn (j + n)), if_neg (nle (by omega) (by omega)), f1, mo_swings_65_eq, K_m hK 3 rfl, em3, el, if_pos (yle (Nat.le_refl _) (by omega)), nn_s]) (by omega) ⟨rfl, rfl⟩
  have e1 : mo_swings_56 s x (nn k) (nn j) 0 0 (nn j) = mo_swings_56 s x (nn k) (nn j) c d (nn (j + (k - j))) := e1
  have e2 : c = gmO t j (k - j) := e2
  have e3 : d = ovO t j (k - j) := e3
  rw [e1, mo_swings_56_eq, if_pos (yle (by omega) (by omega)), nn_d (by omega), e2, e3]
  split
  · rfl
  · split
    · rfl
    · split <;> rfl
/-- the reference's search -/
def smI (t s : mSt) (k : Nat) (s1 : mSt) : Prop := Ch mL3 [] s s1 ∧ rwM t k s1
theorem sum_turn (hJ : J t) (hK : K t s) (h201 : ∀ l, l < nln t → s 201 l = rmV t false l) (x : Int32) {k : Nat} (hk : k < 61) {s1 : mSt} (h : smI t s k s1) : ∃ s2, mo_swings_20 s1 x (nn k) = mo_swings_33 s2 x (nn k) (nn 0) ∧ smI t s (k + 1) s2 := by
  obtain ⟨i1, i3⟩ := h
  obtain ⟨-, h12, -⟩ := nln_ok hJ
  have K1 : K t s1 := K_ch i1 rfl rfl hK
  obtain ⟨s2, g1, g2, g3, g4, -⟩ := swingsOnceM hJ K1 (fun l hl => by rw [i1.1 201 rfl rfl]; exact h201 l hl) hk (by
    by_cases z : k = 0
    · exact Or.inl z
    · exact Or.inr (i3 (k - 1) (by omega)))
  refine ⟨s2, ?_, Ch_tr i1 g2, fun j hj l hl => ?_⟩
  · rw [mo_swings_20_eq, if_neg (show ¬ (60 : Int32) < nn k from nlt (i := 60) (by omega) (by omega)), g1, bV_rV]
    rfl
  · by_cases e : j = k
    · rw [e]; exact g4 l hl
    · rw [g3 _ (by omega)]; exact i3 j (by omega) l hl
theorem sum_inner (hJ : J t) (hK : K t s) (x : Int32) {k : Nat} (hk : k < 61) {s2 : mSt} (h : smI t s (k + 1) s2) {j0 : Nat} (hj : j0 ≤ k) (hn : ∀ i, i < j0 → lkB t i k = false) : mo_swings_33 s2 x (nn k) (nn 0) = mo_swings_33 s2 x (nn k) (nn j0) := by
  obtain ⟨i1, i3⟩ := h
  have K2 : K t s2 := K_ch i1 rfl rfl hK
  obtain ⟨-, f1, -⟩ := loopS (σ := Unit) (fun _ i => mo_swings_33 s2 x (nn k) (nn i)) j0 (fun _ _ => True) (i0 := 0) (s0 := ()) (fun i _ hi _ => by
    show ∃ s', mo_swings_33 s2 x (nn k) (nn i) = mo_swings_33 s2 x (nn k) (nn (i + 1)) ∧ True
    refine ⟨(), ?_, trivial⟩
    rw [mo_swings_33_eq s2 x (nn k) (nn i), if_neg (nle (by omega) (by omega)), alikeM hJ K2 (by omega) hk (i3 i (by omega)) (i3 k (by omega)), hn i hi, bI_rI, if_pos bi_f, nn_s]) (by omega) trivial
  exact f1
theorem sum_go (hJ : J t) (hK : K t s) (h201 : ∀ l, l < nln t → s 201 l = rmV t false l) (x : Int32) : ∀ n, n ≤ 61 → (∀ k', k' < n → ∀ i, i < k' → lkB t i k' = false) → ∃ s1, mo_swings_20 s x 0 = mo_swings_20 s1 x (nn n) ∧ smI t s n s1 := fun n hn hno => by
  obtain ⟨s1, f1, f2⟩ := loopS (σ := mSt) (fun s1 k => mo_swings_20 s1 x (nn k)) n (fun k s1 => smI t s k s1) (i0 := 0) (s0 := s) (fun k s1 hk hI => by
    show ∃ s', mo_swings_20 s1 x (nn k) = mo_swings_20 s' x (nn (k + 1)) ∧ _
    obtain ⟨s2, g1, g2⟩ := sum_turn hJ hK h201 x (by omega) hI
    refine ⟨s2, ?_, g2⟩
    rw [g1, sum_inner hJ hK x (by omega) g2 (Nat.le_refl _) (hno k hk), mo_swings_33_eq, if_pos (yle (Nat.le_refl _) (by omega)), nn_s]) (by omega) ⟨Ch_rf, fun j hj => by omega⟩
  exact ⟨s1, f1, f2⟩
end SWS
theorem c_swings : CS1 J LL_swings mo_swings := by
  intro t x hJ
  by_cases h1 : wb x 0 3 = 0
  · exact ⟨-1, t, t, by rw [LL_swings_eq, LLw, bI_rI, if_pos h1], by rw [mo_swings_eq, mw_0_3, bI_rI, if_pos h1], hJ⟩
  obtain ⟨s1, a1, a2, a3⟩ := keepC hJ K_rf false
  rw [bi_f] at a1
  have K1 : K t s1 := K_ch a2 rfl rfl K_rf
  rcases back_or t with ⟨k, j, k1, j1, k2, k3, k4⟩ | hno
  · obtain ⟨s2, b1, b2, b3, b4, b5⟩ := (untilBackC hJ K1 a3).1 k j k1 j1 k2 k3 k4
    have K2 : K t s2 := K_ch b2 rfl rfl K1
    obtain ⟨s3, c1, c2, c3⟩ := roomsM hJ K2
    have K3 : K t s3 := K_ch c2 rfl rfl K2
    obtain ⟨s4, d1, d2⟩ := sum_go hJ K3 c3 x k (by omega) k4
    obtain ⟨s5, e1, e2⟩ := sum_turn hJ K3 c3 x k1 d2
    have K5 : K t s5 := K_ch e2.1 rfl rfl K3
    refine ⟨if x = 0 then nn j else if x = 1 then nn (k - j) else if x = 2 then gmO t j (k - j) else ovO t j (k - j), s2, s5, ?_, ?_, K_J K5 hJ⟩
    · rw [LL_swings_eq, LLw, bI_rI, if_neg h1, a1, bV_rV, b1, bI_rI, if_neg (show ¬ (1 : Int32) = 0 by decide), b3, b4, greatC hJ K2 k1 j1 b3 b4 b5, overC hJ K2 (fun l hl => by rw [b2.1 48 rfl rfl]; exact a3 l hl) k1 j1 b3 b4 b5, bI_rI, bI_rI]
      split
      · rfl
      · split
        · rfl
        · split <;> rfl
    · rw [mo_swings_eq, mw_0_3, bI_rI, if_neg h1, c1, bV_rV, d1, e1, sum_inner hJ K3 x k1 e2 (by omega) k3, mo_swings_33_eq, if_neg (nle j1 (by omega)), alikeM hJ K5 (by omega) k1 (e2.2 j (by omega)) (e2.2 k (by omega)), k2, bI_rI, if_neg (show ¬ bi true = 0 by decide), bothM hJ K5 (fun l hl => by rw [e2.1.1 201 rfl rfl]; exact c3 l hl) x k1 j1 e2.2]
  · obtain ⟨s2, b1, b2, b3, b4, b5⟩ := (untilBackC hJ K1 a3).2 hno
    have K2 : K t s2 := K_ch b2 rfl rfl K1
    obtain ⟨s3, c1, c2, c3⟩ := roomsM hJ K2
    have K3 : K t s3 := K_ch c2 rfl rfl K2
    obtain ⟨s4, d1, d2⟩ := sum_go hJ K3 c3 x 61 (Nat.le_refl _) hno
    have K4 : K t s4 := K_ch d2.1 rfl rfl K3
    refine ⟨-6, s2, s4, ?_, ?_, K_J K4 hJ⟩
    · rw [LL_swings_eq, LLw, bI_rI, if_neg h1, a1, bV_rV, b1, bI_rI, if_pos rfl]
    · rw [mo_swings_eq, mw_0_3, bI_rI, if_neg h1, c1, bV_rV, d1, mo_swings_20_eq, if_pos (show (60 : Int32) < nn 61 by decide)]
