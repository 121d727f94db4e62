/-! heaps, as labels -/
def lbC (Q : Nat → Bool) (fr to : Nat → Nat) : Nat → Nat → Nat
  | 0, i => i
  | k + 1, i => if Q k = true ∧ lbC Q fr to k i = lbC Q fr to k (to k) then lbC Q fr to k (fr k) else lbC Q fr to k i
def lbM (Q : Nat → Bool) (fr to : Nat → Nat) : Nat → Nat → Nat
  | 0, i => i
  | k + 1, i => if Q k = true ∧ lbM Q fr to k i = lbM Q fr to k (fr k) then lbM Q fr to k (to k) else lbM Q fr to k i
def cnC (Q : Nat → Bool) (fr to : Nat → Nat) (nl : Nat) : Nat → Nat
  | 0 => nl
  | k + 1 => if Q k = true ∧ ¬ lbC Q fr to k (fr k) = lbC Q fr to k (to k) then cnC Q fr to nl k - 1 else cnC Q fr to nl k
def cnM (Q : Nat → Bool) (fr to : Nat → Nat) (nl : Nat) : Nat → Nat
  | 0 => nl
  | k + 1 => if Q k = true ∧ ¬ lbM Q fr to k (fr k) = lbM Q fr to k (to k) then cnM Q fr to nl k - 1 else cnM Q fr to nl k
section LBS
variable {Q : Nat → Bool} {fr to : Nat → Nat} {nl : Nat}
theorem lb_iff (k : Nat) : ∀ u v, lbC Q fr to k u = lbC Q fr to k v ↔ lbM Q fr to k u = lbM Q fr to k v := by
  induction k with
  | zero => exact fun u v => Iff.rfl
  | succ k ih =>
    intro u v
    have h1 := ih u v
    have h2 := ih u (fr k)
    have h3 := ih u (to k)
    have h4 := ih v (fr k)
    have h5 := ih v (to k)
    have h6 := ih (fr k) (to k)
    have h7 := ih (fr k) v
    have h8 := ih (to k) u
    have h9 := ih (to k) v
    have h0 := ih (fr k) u
    show (if Q k = true ∧ lbC Q fr to k u = lbC Q fr to k (to k) then lbC Q fr to k (fr k) else lbC Q fr to k u) = (if Q k = true ∧ lbC Q fr to k v = lbC Q fr to k (to k) then lbC Q fr to k (fr k) else lbC Q fr to k v) ↔ (if Q k = true ∧ lbM Q fr to k u = lbM Q fr to k (fr k) then lbM Q fr to k (to k) else lbM Q fr to k u) = (if Q k = true ∧ lbM Q fr to k v = lbM Q fr to k (fr k) then lbM Q fr to k (to k) else lbM Q fr to k v)
    generalize lbC Q fr to k u = cu at *
    generalize lbC Q fr to k v = cv at *
    generalize lbC Q fr to k (fr k) = cf at *
    generalize lbC Q fr to k (to k) = ct at *
    generalize lbM Q fr to k u = mu at *
    generalize lbM Q fr to k v = mv at *
    generalize lbM Q fr to k (fr k) = mf at *
    generalize lbM Q fr to k (to k) = mt at *
    by_cases q : Q k = true
    · simp only [q, true_and]
      by_cases a1 : cu = ct <;> by_cases a2 : cv = ct <;> by_cases b1 : mu = mf <;> by_cases b2 : mv = mf <;> simp only [a1, a2, b1, b2, if_true, if_false] <;> first | omega | grind
    · simp only [q, false_and, if_false]
      exact h1
theorem cn_eq (k : Nat) : cnC Q fr to nl k = cnM Q fr to nl k := by
  induction k with
  | zero => rfl
  | succ k ih =>
    show (if _ then _ else _) = (if _ then _ else _)
    rw [ih]
    by_cases c : Q k = true ∧ ¬ lbC Q fr to k (fr k) = lbC Q fr to k (to k)
    · rw [if_pos c, if_pos ⟨c.1, fun q => c.2 ((lb_iff k _ _).mpr q)⟩]
    · rw [if_neg c, if_neg (fun q => c ⟨q.1, fun w => q.2 ((lb_iff k _ _).mp w)⟩)]
theorem lb_idem (k : Nat) : ∀ v, lbC Q fr to k (lbC Q fr to k v) = lbC Q fr to k v := by
  induction k with
  | zero => exact fun v => rfl
  | succ k ih =>
    intro v
    show (if Q k = true ∧ lbC Q fr to k (lbC Q fr to (k + 1) v) = lbC Q fr to k (to k) then lbC Q fr to k (fr k) else lbC Q fr to k (lbC Q fr to (k + 1) v)) = lbC Q fr to (k + 1) v
    have e : lbC Q fr to (k + 1) v = if Q k = true ∧ lbC Q fr to k v = lbC Q fr to k (to k) then lbC Q fr to k (fr k) else lbC Q fr to k v := rfl
    have hf := ih (fr k)
    have hv := ih v
    rw [e]
    by_cases c : Q k = true ∧ lbC Q fr to k v = lbC Q fr to k (to k)
    · rw [if_pos c, hf]
      split <;> rfl
    · rw [if_neg c, hv, if_neg c]
theorem lb_lt (hf : ∀ k, Q k = true → fr k < nl) (k : Nat) : ∀ v, v < nl → lbC Q fr to k v < nl := by
  induction k with
  | zero => exact fun v h => h
  | succ k ih =>
    intro v hv
    show (if Q k = true ∧ lbC Q fr to k v = lbC Q fr to k (to k) then lbC Q fr to k (fr k) else lbC Q fr to k v) < nl
    split
    · next h => exact ih _ (hf k h.1)
    · exact ih v hv
theorem lbM_lt (ht : ∀ k, Q k = true → to k < nl) (k : Nat) : ∀ v, v < nl → lbM Q fr to k v < nl := by
  induction k with
  | zero => exact fun v h => h
  | succ k ih =>
    intro v hv
    show (if Q k = true ∧ lbM Q fr to k v = lbM Q fr to k (fr k) then lbM Q fr to k (to k) else lbM Q fr to k v) < nl
    split
    · next h => exact ih _ (ht k h.1)
    · exact ih v hv
theorem ctN_del {p q : Nat → Bool} {n b : Nat} (hb : b < n) (h1 : p b = true) (h2 : q b = false) (h : ∀ i, i ≠ b → q i = p i) : ctN p n = ctN q n + 1 := by
  induction n with
  | zero => omega
  | succ n ih =>
    show ctN p n + (if p n = true then 1 else 0) = ctN q n + (if q n = true then 1 else 0) + 1
    by_cases e : b = n
    · subst e
      have : ctN p b = ctN q b := by
        have f1 := ctN_mono (p := p) (q := q) (n := b) (fun i hi hp => by rw [h i (by omega)]; exact hp)
        have f2 := ctN_mono (p := q) (q := p) (n := b) (fun i hi hp => by rw [← h i (by omega)]; exact hp)
        omega
      rw [h1, h2, if_pos rfl, if_neg (by decide), this]
    · rw [ih (by omega), h n (fun q => e q.symm)]
      omega
theorem ctN_pos {p : Nat → Bool} {n i : Nat} (hi : i < n) (h : p i = true) : 1 ≤ ctN p n := by
  have := ctN_lt (p := fun _ => false) (q := p) (n := n) (i := i) (fun _ _ q => by cases q) hi rfl h
  omega
theorem ctN_true (n : Nat) : ∀ p : Nat → Bool, (∀ i, i < n → p i = true) → ctN p n = n := by
  intro p h
  have := ctN_yes (p := p) (a := 0) (z := n) (by omega) (fun t _ h2 => h t h2)
  have e : ctN p 0 = 0 := rfl
  omega
theorem cn_fix (hf : ∀ k, Q k = true → fr k < nl) (ht : ∀ k, Q k = true → to k < nl) (k : Nat) : cnC Q fr to nl k = ctN (fun v => decide (lbC Q fr to k v = v)) nl := by
  induction k with
  | zero => exact (ctN_true nl _ (fun i _ => decide_eq_true rfl)).symm
  | succ k ih =>
    have e : ∀ v, lbC Q fr to (k + 1) v = if Q k = true ∧ lbC Q fr to k v = lbC Q fr to k (to k) then lbC Q fr to k (fr k) else lbC Q fr to k v := fun v => rfl
    show (if Q k = true ∧ ¬ lbC Q fr to k (fr k) = lbC Q fr to k (to k) then cnC Q fr to nl k - 1 else cnC Q fr to nl k) = _
    by_cases c : Q k = true ∧ ¬ lbC Q fr to k (fr k) = lbC Q fr to k (to k)
    · rw [if_pos c, ih]
      have hf' := lb_idem (Q := Q) (fr := fr) (to := to) k (fr k)
      have ht' := lb_idem (Q := Q) (fr := fr) (to := to) k (to k)
      have := ctN_del (p := fun v => decide (lbC Q fr to k v = v)) (q := fun v => decide (lbC Q fr to (k + 1) v = v)) (n := nl) (b := lbC Q fr to k (to k)) (lb_lt hf k _ (ht k c.1)) (decide_eq_true ht') (by
        show decide (lbC Q fr to (k + 1) (lbC Q fr to k (to k)) = lbC Q fr to k (to k)) = false
        rw [e, if_pos ⟨c.1, ht'⟩]
        exact decide_eq_false c.2) (fun i hi => by
        show decide (lbC Q fr to (k + 1) i = i) = decide (lbC Q fr to k i = i)
        rw [e]
        by_cases d : Q k = true ∧ lbC Q fr to k i = lbC Q fr to k (to k)
        · rw [if_pos d, d.2, decide_eq_false (show ¬ lbC Q fr to k (to k) = i from fun w => hi w.symm)]
          refine decide_eq_false (fun w => ?_)
          rw [← w, hf'] at d
          exact c.2 d.2
        · rw [if_neg d])
      omega
    · rw [if_neg c, ih]
      congr 1
      funext v
      rw [e]
      by_cases d : Q k = true ∧ lbC Q fr to k v = lbC Q fr to k (to k)
      · rw [if_pos d, d.2]
        have : lbC Q fr to k (fr k) = lbC Q fr to k (to k) := by
          by_cases w : lbC Q fr to k (fr k) = lbC Q fr to k (to k)
          · exact w
          · exact absurd ⟨d.1, w⟩ c
        rw [this]
      · rw [if_neg d]
theorem cn_pos (hf : ∀ k, Q k = true → fr k < nl) (ht : ∀ k, Q k = true → to k < nl) (h : 1 ≤ nl) (k : Nat) : 1 ≤ cnC Q fr to nl k := by
  rw [cn_fix hf ht k]
  exact ctN_pos (lb_lt hf k 0 (by omega)) (decide_eq_true (lb_idem k 0))
theorem cn_le (k : Nat) : cnC Q fr to nl k ≤ nl := by
  induction k with
  | zero => exact Nat.le_refl _
  | succ k ih =>
    show (if Q k = true ∧ ¬ lbC Q fr to k (fr k) = lbC Q fr to k (to k) then cnC Q fr to nl k - 1 else cnC Q fr to nl k) ≤ nl
    split
    · exact Nat.le_trans (Nat.sub_le _ _) ih
    · exact ih
end LBS
/-! near states: what they share -/
section KS
variable {t s : mSt}
theorem K_n (h : K t s) : nln s = nln t ∧ nld s = nld t ∧ nbr s = nbr t ∧ ndm s = ndm t ∧ nsh s = nsh t ∧ npl s = npl t := by
  unfold nln nld nbr ndm nsh npl
  rw [K_at h 25 rfl, K_at h 35 rfl, K_at h 43 rfl, K_at h 129 rfl, K_at h 166 rfl]
  exact ⟨rfl, rfl, rfl, rfl, rfl, rfl⟩
theorem rm_K (h : K t s) (w : Bool) (l : Nat) : rmV s w l = rmV t w l := by
  unfold rmV brB ltV ctB nbr
  have : ctP s l = ctP t l := by
    funext b
    unfold ctP opB
    rw [K_at h 35 rfl, K_at h 36 rfl, K_at h 41 rfl]
  rw [this, K_at h 2 rfl, K_at h 34 rfl, K_at h 32 rfl, K_at h 33 rfl, K_at h 25 rfl, K_at h 35 rfl, K_at h 31 rfl]
theorem keepC (hJ : J t) (hK : K t s) (w : Bool) : ∃ s', tr_keepRooms s (bi w) = rV s' ∧ Ch [48] [] s s' ∧ ∀ l, l < nln t → s' 48 l = rmV t w l := by
  obtain ⟨en, h12, -⟩ := nln_ok hJ
  rw [tr_keepRooms_eq]
  obtain ⟨s', e1, e2, e3⟩ := loopS (σ := mSt) (fun s1 i => tr_keepRooms_2 s1 (bi w) (nn i)) (nln t) (fun i s1 => Ch [48] [] s s1 ∧ ∀ l, l < i → s1 48 l = rmV t w l) (i0 := 0) (s0 := s) (fun i s1 hi hI => by
    show ∃ s', tr_keepRooms_2 s1 (bi w) (nn i) = tr_keepRooms_2 s' (bi w) (nn (i + 1)) ∧ _
    obtain ⟨c1, c2⟩ := hI
    have hK1 : K t s1 := K_ch c1 rfl rfl hK
    have hJ1 := K_J hK1 hJ
    have e25 : s1 25 5 = nn (nln t) := by rw [K_at hK1 25 rfl]; exact en
    refine ⟨wr s1 48 i (rmV t w i), ?_, Ch_w rfl rfl c1, fun l hl => ?_⟩
    · rw [tr_keepRooms_2_eq s1 (bi w) (nn i), e25, if_neg (nle hi (by omega)), rmC hJ1 w (by rw [(K_n hK1).1]; exact hi), bI_rI, nn_b (i := i) (n := 12) (by omega) (by decide), gd_t, nn_n (by omega), rm_K hK1, nn_s]
    · rw [wr_at]
      by_cases e : l = i
      · rw [e, upd_at]
      · rw [upd_ne e]; exact c2 l (by omega)) (by omega) ⟨Ch_rf, fun l hl => by omega⟩
  have e1 : tr_keepRooms_2 s (bi w) (nn 0) = tr_keepRooms_2 s' (bi w) (nn (nln t)) := e1
  refine ⟨s', e1.trans ?_, e2, e3⟩
  have hK1 : K t s' := K_ch e2 rfl rfl hK
  rw [tr_keepRooms_2_eq, K_at hK1 25 rfl, en, if_pos (yle (Nat.le_refl _) (by omega))]
theorem roomsM (hJ : J t) (hK : K t s) : ∃ s', mo_roomsNow s = rV s' ∧ Ch [201] [] s s' ∧ ∀ l, l < nln t → s' 201 l = rmV t false l := by
  obtain ⟨en, h12, -⟩ := nln_ok hJ
  have em := (J_N hJ).1.2.1.1
  rw [mo_roomsNow_eq]
  obtain ⟨s', e1, e2, e3⟩ := loopS (σ := mSt) (fun s1 i => mo_roomsNow_2 s1 (nn i)) (nln t) (fun i s1 => Ch [201] [] s s1 ∧ ∀ l, l < i → s1 201 l = rmV t false l) (i0 := 0) (s0 := s) (fun i s1 hi hI => by
    show ∃ s', mo_roomsNow_2 s1 (nn i) = mo_roomsNow_2 s' (nn (i + 1)) ∧ _
    obtain ⟨c1, c2⟩ := hI
    have hK1 : K t s1 := K_ch c1 rfl rfl hK
    have hJ1 := K_J hK1 hJ
    refine ⟨wr s1 201 i (rmV t false i), ?_, Ch_w rfl rfl c1, fun l hl => ?_⟩
    · rw [mo_roomsNow_2_eq s1 (nn i), K_m hK1 3 rfl, em, en, if_neg (nle hi (by omega)), rmM hJ1 (by rw [(K_n hK1).1]; exact hi), bI_rI, nn_b (i := i) (n := 12) (by omega) (by decide), gd_t, nn_n (by omega), rm_K hK1, nn_s]
    · rw [wr_at]
      by_cases e : l = i
      · rw [e, upd_at]
      · rw [upd_ne e]; exact c2 l (by omega)) (by omega) ⟨Ch_rf, fun l hl => by omega⟩
  have e1 : mo_roomsNow_2 s (nn 0) = mo_roomsNow_2 s' (nn (nln t)) := e1
  refine ⟨s', e1.trans ?_, e2, e3⟩
  have hK1 : K t s' := K_ch e2 rfl rfl hK
  rw [mo_roomsNow_2_eq, K_m hK1 3 rfl, em, en, if_pos (yle (Nat.le_refl _) (by omega))]
end KS
