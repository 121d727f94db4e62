/-! the case feed -/
def fbC (v : Int64) (x : Int32) : Int32 := (v.toUInt64 >>> (x.toInt64.toUInt64 &&& Int64.toUInt64 63)).toInt64.toInt32 &&& 255
def fbM (v : Int64) (x : Int32) : Int32 := ((v >>> (x.toInt64 &&& 63)) &&& 255).toInt32
theorem fb_lit (v : Int64) {a : UInt64} {b : Int64} {k : Nat} (hk : k ≤ 56) (ha : a.toBitVec % 64 = BitVec.ofNat 64 k) (hb : b.toBitVec.smod 64 = BitVec.ofNat 64 k) : (v.toUInt64 >>> a).toInt64.toInt32 &&& 255 = ((v >>> b) &&& 255).toInt32 := by
  rw [Int64.toInt32_and]
  apply Int32.toBitVec_inj.mp
  rw [Int32.toBitVec_and, Int32.toBitVec_and]
  apply BitVec.eq_of_getLsbD_eq
  intro i hi
  rw [BitVec.getLsbD_and, BitVec.getLsbD_and]
  by_cases h : i < 8
  · have e1 : ((v.toUInt64 >>> a).toInt64.toInt32).toBitVec.getLsbD i = v.toBitVec.getLsbD (k + i) := by
      rw [Int64.toBitVec_toInt32, UInt64.toBitVec_toInt64, UInt64.toBitVec_shiftRight, ha, BitVec.getLsbD_signExtend, if_pos (by omega), BitVec.ushiftRight_eq', BitVec.getLsbD_ushiftRight, BitVec.toNat_ofNat, Nat.mod_eq_of_lt (by omega)]
      rw [decide_eq_true hi, Bool.true_and]
      rfl
    have e2 : ((v >>> b).toInt32).toBitVec.getLsbD i = v.toBitVec.getLsbD (k + i) := by
      rw [Int64.toBitVec_toInt32, Int64.toBitVec_shiftRight, hb, BitVec.getLsbD_signExtend, if_pos (by omega), BitVec.getLsbD_sshiftRight', BitVec.toNat_ofNat, Nat.mod_eq_of_lt (by omega), if_pos (by omega)]
      rw [decide_eq_true hi, Bool.true_and, decide_eq_false (by omega)]
      rfl
    rw [e1, e2]
    rfl
  · have e : ∀ i : Fin 32, 8 ≤ i.val → (255 : Int32).toBitVec.getLsbD i.val = false := by decide
    have e1 := e ⟨i, hi⟩ (by show 8 ≤ i; omega)
    have e1 : (255 : Int32).toBitVec.getLsbD i = false := e1
    have e2 : ((255 : Int64).toInt32).toBitVec.getLsbD i = false := e1
    rw [e1, e2, Bool.and_false, Bool.and_false]
theorem fb_eq (v : Int64) {n : Nat} (hn : n < 8) : fbC v (nn (8 * n)) = fbM v (nn (8 * n)) := by
  unfold fbC fbM
  match n, hn with
  | 0, _ => exact fb_lit v (k := 0) (by decide) (by decide) (by decide)
  | 1, _ => exact fb_lit v (k := 8) (by decide) (by decide) (by decide)
  | 2, _ => exact fb_lit v (k := 16) (by decide) (by decide) (by decide)
  | 3, _ => exact fb_lit v (k := 24) (by decide) (by decide) (by decide)
  | 4, _ => exact fb_lit v (k := 32) (by decide) (by decide) (by decide)
  | 5, _ => exact fb_lit v (k := 40) (by decide) (by decide) (by decide)
  | 6, _ => exact fb_lit v (k := 48) (by decide) (by decide) (by decide)
  | 7, _ => exact fb_lit v (k := 56) (by decide) (by decide) (by decide)
  | n + 8, h => exact absurd h (by omega)
def shN (n : Nat) : Int32 := if n = 0 then -8 else nn (8 * (n - 1))
theorem shN_s {n : Nat} (hn : n < 8) : nn (8 * n) + (-8) = shN n := by
  match n, hn with
  | 0, _ => decide
  | 1, _ => decide
  | 2, _ => decide
  | 3, _ => decide
  | 4, _ => decide
  | 5, _ => decide
  | 6, _ => decide
  | 7, _ => decide
  | n + 8, h => exact absurd h (by omega)
def fdR (v : Int64) : Nat → (Nat → Int32) → Nat → (Nat → Int32)
  | 0, r, _ => r
  | n + 1, r, p => fdR v n (upd r p (fbC v (nn (8 * n)))) (p + 1)
theorem and255 (x : Int32) : bd (x &&& 255) 0 255 := by
  have h : (x &&& 255).toBitVec.toNat ≤ 255 := by
    rw [Int32.toBitVec_and, BitVec.toNat_and]
    exact Nat.and_le_right
  have e : (x &&& 255).toInt = ((x &&& 255).toBitVec.toNat : Int) := BitVec.toInt_eq_toNat_of_lt (by omega)
  exact ⟨by omega, by omega⟩
theorem fdR_bd (v : Int64) : ∀ (n : Nat) (r : Nat → Int32) (p : Nat), (∀ j, bd (r j) 0 255) → ∀ j, bd (fdR v n r p j) 0 255 := by
  intro n
  induction n with
  | zero => exact fun r p h => h
  | succ n ih =>
    intro r p h
    refine ih _ _ (fun j => ?_)
    unfold upd
    split
    · exact and255 _
    · exact h j
theorem upd_sf {f : Nat → Int32} {j : Nat} {v : Int32} (h : f j = v) : upd f j v = f := by
  funext k
  unfold upd
  split
  · next e => rw [e, h]
  · rfl
theorem upd_upd {f : Nat → Int32} {j : Nat} {v w : Int32} : upd (upd f j v) j w = upd f j w := by
  funext k
  unfold upd
  split <;> rfl
theorem feedC (v : Int64) : ∀ (n : Nat) (s : mSt) (p : Nat), n ≤ 8 → s 12 2 = nn p → p + n ≤ 240 → ∃ s', rd_takeBytes_19 s v (shN n) = rI (nn (p + n)) s' ∧ s' 13 = fdR v n (s 13) p ∧ s' 12 = upd (s 12) 2 (nn (p + n)) ∧ ∀ a, a ≠ 12 → a ≠ 13 → s' a = s a := by
  intro n
  induction n with
  | zero =>
    intro s p _ h1 h2
    exact ⟨s, by rw [rd_takeBytes_19_eq, if_pos (by decide), h1]; rfl, rfl, (upd_sf h1).symm, fun _ _ _ => rfl⟩
  | succ n ih =>
    intro s p h0 h1 h2
    obtain ⟨s', e1, e2, e3, e4⟩ := ih (wr (wr s 13 p (fbC v (nn (8 * n)))) 12 2 (nn (p + 1))) (p + 1) (by omega) rfl (by omega)
    have hs : shN (n + 1) = nn (8 * n) := rfl
    refine ⟨s', ?_, e2, ?_, fun a h12 h13 => ?_⟩
    · rw [rd_takeBytes_19_eq, hs, if_neg (show ¬ nn (8 * n) < 0 from nlt (j := 0) (by omega) (by omega)), h1, nn_b (i := p) (n := 240) (by omega) (by decide), gd_t, nn_n (by omega), shN_s (by omega), nn_s]
      have : p + (n + 1) = p + 1 + n := by omega
      rw [this]
      exact e1
    · rw [e3]
      have : p + (n + 1) = p + 1 + n := by omega
      rw [this]
      show upd (upd (s 12) 2 _) 2 _ = _
      rw [upd_upd]
    · rw [e4 a h12 h13, wr_ne _ _ _ h12, wr_ne _ _ _ h13]
theorem feedM (v : Int64) : ∀ (n : Nat) (s : mSt) (p : Nat), n ≤ 8 → s 183 20 = nn p → p + n ≤ 240 → ∃ s', mo_feed_19 s v (shN n) = rI (nn (p + n)) s' ∧ s' 197 = fdR v n (s 197) p ∧ s' 183 = upd (s 183) 20 (nn (p + n)) ∧ ∀ a, a ≠ 183 → a ≠ 197 → s' a = s a := by
  intro n
  induction n with
  | zero =>
    intro s p _ h1 h2
    exact ⟨s, by rw [mo_feed_19_eq, if_pos (by decide), h1]; rfl, rfl, (upd_sf h1).symm, fun _ _ _ => rfl⟩
  | succ n ih =>
    intro s p h0 h1 h2
    obtain ⟨s', e1, e2, e3, e4⟩ := ih (wr (wr s 197 p (fbC v (nn (8 * n)))) 183 20 (nn (p + 1))) (p + 1) (by omega) rfl (by omega)
    have hs : shN (n + 1) = nn (8 * n) := rfl
    refine ⟨s', ?_, e2, ?_, fun a h12 h13 => ?_⟩
    · have hq : ((v >>> ((nn (8 * n)).toInt64 &&& 63)) &&& 255).toInt32 = fbC v (nn (8 * n)) := (fb_eq v (by omega)).symm
      rw [mo_feed_19_eq, hs, if_neg (show ¬ nn (8 * n) < 0 from nlt (j := 0) (by omega) (by omega)), h1, nn_b (i := p) (n := 240) (by omega) (by decide), gd_t, nn_n (by omega), shN_s (by omega), nn_s, hq]
      have : p + (n + 1) = p + 1 + n := by omega
      rw [this]
      exact e1
    · rw [e3]
      have : p + (n + 1) = p + 1 + n := by omega
      rw [this]
      show upd (upd (s 183) 20 _) 20 _ = _
      rw [upd_upd]
    · rw [e4 a h12 h13, wr_ne _ _ _ h12, wr_ne _ _ _ h13]
theorem c_feed : CS1 J LL_feed mo_feed := by
  intro s v hJ
  obtain ⟨⟨et, bt⟩, ef, er, hb⟩ := id (J_T hJ)
  obtain ⟨p, ep, hp, hp2, -⟩ := nn_of bt
  have e8 : s 12 2 + 8 = nn (p + 8) := by rw [ep]; exact nn_a p 8
  by_cases h : p + 8 ≤ 240
  · have hc : s 12 2 + 8 ≤ 240 := by rw [e8]; exact (show nn (p + 8) ≤ nn 240 from yle h (by decide))
    obtain ⟨s1, a1, a2, a3, a4⟩ := feedC v 8 s p (by omega) ep h
    have g20 : s1 183 20 = nn p := by rw [a4 183 (by decide) (by decide), et, ep]
    obtain ⟨s2, b1, b2, b3, b4⟩ := feedM v 8 s1 p (by omega) g20 h
    refine ⟨nn (p + 8), s1, s2, ?_, ?_, ?_⟩
    · rw [LL_feed_eq, rd_takeBytes_eq, if_pos hc]
      show bI (rd_takeBytes_19 s v (shN 8)) _ = _
      rw [a1, bI_rI]
    · rw [mo_feed_eq, if_pos (by rw [a4 183 (by decide) (by decide), et]; exact hc)]
      exact b1
    · have f : ∀ a, a ≠ 12 → a ≠ 13 → a ≠ 183 → a ≠ 197 → s2 a = s a := fun a h1 h2 h3 h4 => by rw [b4 a h3 h4, a4 a h1 h2]
      refine J_butT ⟨fun a ha => ?_, fun k hk => ?_⟩ hJ ⟨⟨?_, ?_⟩, ?_, ?_, ?_⟩
      · have : ∀ a ∈ uT, a ≠ 12 ∧ a ≠ 13 ∧ a ≠ 183 ∧ a ≠ 197 := by decide
        obtain ⟨m1, m2, m3, m4⟩ := this a ha
        exact f a m1 m2 m3 m4
      · have : ∀ k ∈ vT, k ≠ 20 := by decide
        rw [b3, upd_ne (this k hk), a4 183 (by decide) (by decide)]
      · rw [b3, upd_at, b4 12 (by decide) (by decide), a3, upd_at]
      · rw [b4 12 (by decide) (by decide), a3, upd_at]
        exact nn_bd (by omega) (by omega)
      · rw [b3, upd_ne (by decide), a4 183 (by decide) (by decide), b4 12 (by decide) (by decide), a3, upd_ne (by decide)]
        exact ef
      · rw [b2, a4 197 (by decide) (by decide), b4 13 (by decide) (by decide), a2, er]
      · rw [b4 13 (by decide) (by decide), a2]
        exact fdR_bd v 8 _ _ hb
  · have hc : ¬ s 12 2 + 8 ≤ 240 := by rw [e8]; exact (show ¬ nn (p + 8) ≤ nn 240 from nle (by omega) (by omega))
    exact ⟨-3, s, s, by rw [LL_feed_eq, rd_takeBytes_eq, if_neg hc, bI_rI], by rw [mo_feed_eq, et, if_neg hc], hJ⟩
