/-- the way of a demand -/
noncomputable def pthL (t : mSt) (op : Nat → Bool) (a : Nat → Nat) (c src tgt : Nat) : List Nat := @ite (List Nat) (∃ x, mc (edE t op) a tgt c src x) (Classical.propDecidable _) (wyL (tgP (edE t op) a tgt c) (otN t) (nln t) tgt 7 src) []
section FOL
variable {t s : mSt} {op : Nat → Bool} {a : Nat → Nat} {c tgt : Nat}
theorem pth_y {src x : Nat} (h : mc (edE t op) a tgt c src x) : pthL t op a c src tgt = wyL (tgP (edE t op) a tgt c) (otN t) (nln t) tgt 7 src := @if_pos _ (Classical.propDecidable _) ⟨x, h⟩ _ _ _
theorem pth_n {src : Nat} (h : ∀ x, ¬ mc (edE t op) a tgt c src x) : pthL t op a c src tgt = [] := @if_neg _ (Classical.propDecidable _) (fun ⟨x, q⟩ => h x q) _ _ _
theorem wy_len {P : Nat → Nat → Bool} {ot : Nat → Nat → Nat} {ne : Nat} : ∀ f v, (wyL P ot ne tgt f v).length ≤ f := by
  intro f
  induction f with
  | zero => exact fun v => Nat.le_refl _
  | succ f ih =>
    intro v
    show (if v = tgt then [] else sk (fun l => P l v) ne 0 :: wyL P ot ne tgt f (ot (sk (fun l => P l v) ne 0) v)).length ≤ f + 1
    split
    · exact Nat.zero_le _
    · exact Nat.succ_le_succ (ih _)
theorem pth_len {src : Nat} : (pthL t op a c src tgt).length ≤ 7 := by
  by_cases h : ∃ x, mc (edE t op) a tgt c src x
  · obtain ⟨x, h⟩ := h
    rw [pth_y h]
    exact wy_len 7 src
  · rw [pth_n (fun x q => h ⟨x, q⟩)]
    exact Nat.zero_le _
theorem pth_ne {src x : Nat} (h : mc (edE t op) a tgt c src x) (hne : src ≠ tgt) : 1 ≤ (pthL t op a c src tgt).length := by
  rw [pth_y h]
  show 1 ≤ (if src = tgt then [] else _ :: _).length
  rw [if_neg hne]
  exact Nat.succ_le_succ (Nat.zero_le _)
/-- the lines of a way: each is there, open, and none comes twice -/
theorem wy_mem (hJ : J t) : ∀ (f v x : Nat), v < nld t → mc (edE t op) a tgt c v x → ∀ l, l ∈ wyL (tgP (edE t op) a tgt c) (otN t) (nln t) tgt f v → l < nln t ∧ op l = true ∧ ∃ v' u' x' y', edE t op l v' u' ∧ mc (edE t op) a tgt c v' x' ∧ mc (edE t op) a tgt c u' y' ∧ x' = y' + (c * a l + 1) ∧ x' ≤ x := by
  intro f
  induction f with
  | zero => intro v x _ _ l hl; cases hl
  | succ f ih =>
    intro v x hv hm l hl
    have hl : l ∈ (if v = tgt then [] else sk (fun l => tgP (edE t op) a tgt c l v) (nln t) 0 :: wyL (tgP (edE t op) a tgt c) (otN t) (nln t) tgt f (otN t (sk (fun l => tgP (edE t op) a tgt c l v) (nln t) 0) v)) := hl
    by_cases e : v = tgt
    · rw [if_pos e] at hl; cases hl
    · rw [if_neg e] at hl
      obtain ⟨l0, u, y, e1, h1, h2, h3, e2, hu, he, hy, ex⟩ := tg_next hJ hm e
      rw [e1, e2] at hl
      rcases List.mem_cons.mp hl with q | q
      · rw [q]
        exact ⟨h1, he.2.1, v, u, x, y, he, hm, hy, ex, Nat.le_refl _⟩
      · obtain ⟨k1, k2, v', u', x', y', k3, k4, k5, k6, k7⟩ := ih u y hu hy l q
        exact ⟨k1, k2, v', u', x', y', k3, k4, k5, k6, by omega⟩
theorem wy_nodup (hJ : J t) : ∀ (f v x : Nat), v < nld t → mc (edE t op) a tgt c v x → (wyL (tgP (edE t op) a tgt c) (otN t) (nln t) tgt f v).Nodup := by
  intro f
  induction f with
  | zero => intro v x _ _; exact List.nodup_nil
  | succ f ih =>
    intro v x hv hm
    show (if v = tgt then [] else sk (fun l => tgP (edE t op) a tgt c l v) (nln t) 0 :: wyL (tgP (edE t op) a tgt c) (otN t) (nln t) tgt f (otN t (sk (fun l => tgP (edE t op) a tgt c l v) (nln t) 0) v)).Nodup
    by_cases e : v = tgt
    · rw [if_pos e]; exact List.nodup_nil
    · rw [if_neg e]
      obtain ⟨l0, u, y, e1, h1, h2, h3, e2, hu, he, hy, ex⟩ := tg_next hJ hm e
      rw [e1, e2]
      refine List.nodup_cons.mpr ⟨fun q => ?_, ih u y hu hy⟩
      obtain ⟨-, -, v', u', x', y', k3, k4, k5, k6, k7⟩ := wy_mem hJ f u y hu hy l0 q
      rcases he.2.2 with ⟨w1, w2⟩ | ⟨w1, w2⟩ <;> rcases k3.2.2 with ⟨z1, z2⟩ | ⟨z1, z2⟩
      · have : v' = v := by omega
        rw [this] at k4
        have := mc_un k4 hm
        omega
      · have : v' = u := by omega
        rw [this] at k4
        have h5 : u' = v := by omega
        rw [h5] at k5
        have := mc_un k5 hm
        omega
      · have : u' = v := by omega
        rw [this] at k5
        have := mc_un k5 hm
        omega
      · have : v' = v := by omega
        rw [this] at k4
        have := mc_un k4 hm
        omega
theorem pth_mem (hJ : J t) {src : Nat} (hs : src < nld t) : ∀ l, l ∈ pthL t op a c src tgt → l < nln t ∧ op l = true := by
  intro l hl
  by_cases h : ∃ x, mc (edE t op) a tgt c src x
  · obtain ⟨x, h⟩ := h
    rw [pth_y h] at hl
    obtain ⟨h1, h2, -⟩ := wy_mem hJ 7 src x hs h l hl
    exact ⟨h1, h2⟩
  · rw [pth_n (fun x q => h ⟨x, q⟩)] at hl
    cases hl
theorem pth_nodup (hJ : J t) {src : Nat} (hs : src < nld t) : (pthL t op a c src tgt).Nodup := by
  by_cases h : ∃ x, mc (edE t op) a tgt c src x
  · obtain ⟨x, h⟩ := h
    rw [pth_y h]
    exact wy_nodup hJ 7 src x hs h
  · rw [pth_n (fun x q => h ⟨x, q⟩)]
    exact List.nodup_nil
/-- the class's row of lines -/
theorem follow31C (hJ : J t) (hw : ∀ l, c * a l + 1 ≤ 200000) {d : Nat → Nat} (hD : rlD (edE t op) a tgt c (nld t) 268435456 d) (hI : ∀ v x, v < nld t → mc (edE t op) a tgt c v x → x < 268435456) {q : Nat} (hq : q < 12) (hT : t 45 q = nn tgt) (htg : tgt < nld t) : ∀ (f i v x : Nat) (s : mSt), i + f = 7 → v < nld t → mc (edE t op) a tgt c v x → K t s → (∀ l, l < nln t → s 50 l = if op l = true then nn (c * a l + 1) else 0) → (∀ v, v < nld t → s 51 v = nn (d v) ∧ d v ≤ 268435456) → s 66 q = nn i → ∃ s', tr_follow_31 s (nn q) (nn v) (nn i) = rV s' ∧ (∀ b, b ≠ 54 + q → b ≠ 66 → s' b = s b) ∧ s' 66 = upd (s 66) q (nn (i + (wyL (tgP (edE t op) a tgt c) (otN t) (nln t) tgt f v).length)) ∧ ∀ j, s' (54 + q) j = if i ≤ j ∧ j < i + (wyL (tgP (edE t op) a tgt c) (otN t) (nln t) tgt f v).length then nn ((wyL (tgP (edE t op) a tgt c) (otN t) (nln t) tgt f v).getD (j - i) 0) else s (54 + q) j := by
  obtain ⟨el, h12, -⟩ := nln_ok hJ
  obtain ⟨ed, h8, -⟩ := nld_ok hJ
  intro f
  induction f with
  | zero =>
    intro i v x s h7 hv hm hK hp hd h66
    rw [show wyL (tgP (edE t op) a tgt c) (otN t) (nln t) tgt 0 v = [] from rfl]
    refine ⟨s, by rw [tr_follow_31_eq, if_pos (show (7 : Int32) ≤ nn i from yle (i := 7) (by omega) (by omega))], fun _ _ _ => rfl, (upd_sf h66).symm, fun j => ?_⟩
    rw [if_neg (show ¬ (i ≤ j ∧ j < i + ([] : List Nat).length) from fun w => by have : ([] : List Nat).length = 0 := rfl; omega)]
  | succ f ih =>
    intro i v x s h7 hv hm hK hp hd h66
    have eL : wyL (tgP (edE t op) a tgt c) (otN t) (nln t) tgt (f + 1) v = (if v = tgt then [] else sk (fun l => tgP (edE t op) a tgt c l v) (nln t) 0 :: wyL (tgP (edE t op) a tgt c) (otN t) (nln t) tgt f (otN t (sk (fun l => tgP (edE t op) a tgt c l v) (nln t) 0) v)) := rfl
    rw [eL]
    have h45 : s 45 q = nn tgt := by rw [K_at hK 45 rfl]; exact hT
    rw [tr_follow_31_eq, if_neg (show ¬ (7 : Int32) ≤ nn i from nle (i := 7) (by omega) (by omega)), nn_b (i := q) (n := 12) hq (by decide), gd_t, nn_n (by omega), h45]
    by_cases e : v = tgt
    · rw [if_pos e, if_pos (by rw [e])]
      refine ⟨s, rfl, fun _ _ _ => rfl, (upd_sf h66).symm, fun j => ?_⟩
      rw [if_neg (show ¬ (i ≤ j ∧ j < i + ([] : List Nat).length) from fun w => by have : ([] : List Nat).length = 0 := rfl; omega)]
    · obtain ⟨l0, u, y, e1, h1, h2, h3, e2, hu, he, hy, ex⟩ := tg_next hJ hm e
      rw [if_neg e, if_neg (fun w => e ((nn_eq (by omega) (by omega)).mp w)), leastC hJ hK hp hw hD hd hI hv hm e, bI_rI, e1, e2, if_neg (show ¬ nn l0 = -1 from fun w => by
        have := congrArg Int32.toInt w
        rw [nn_i (by omega)] at this
        have e4 : (-1 : Int32).toInt = -1 := rfl
        omega), blt_t hq, nn_b (i := i) (n := 7) (by omega) (by decide), gd_t, gd_t, gd_t, gd_t, nn_n (by omega), nn_s]
      obtain ⟨g, hg⟩ : ∃ g, g = wr (wr s (54 + q) i (nn l0)) 66 q (nn (i + 1)) := ⟨_, rfl⟩
      have gne : ∀ b, b ≠ 54 + q → b ≠ 66 → g b = s b := fun b hb1 hb2 => by rw [hg, wr_ne _ _ _ hb2, wr_ne _ _ _ hb1]
      have gK : K t g := by
        refine ⟨fun b hb => ?_, fun k hk => ?_⟩
        · have hb' : ∀ b ∈ u0, ¬ (54 ≤ b ∧ b ≤ 66) := by decide
          have := hb' b hb
          rw [gne b (by omega) (by omega)]
          exact hK.1 b hb
        · rw [gne 183 (by omega) (by omega)]; exact hK.2 k hk
      have ho : ne_otherEnd g (nn l0) (nn v) = rI (nn u) g := by
        obtain ⟨q1, q2, q3, q4, q5, q6, q7⟩ := ft_ok hJ h1
        rw [ne_otherEnd_eq, nn_b (i := l0) (n := 12) (by omega) (by decide), nn_n (by omega), K_at gK 28 rfl, K_at gK 29 rfl, q5, q6]
        simp only [gd_t]
        rcases he.2.2 with ⟨w1, w2⟩ | ⟨w1, w2⟩
        · rw [if_pos (by rw [w1]), w2]
        · rw [if_neg (fun w => q7 (by rw [(nn_eq (by omega) (by omega)).mp w, w1])), if_pos (by rw [w1]), w2]
      rw [← hg, ho, bI_rI]
      obtain ⟨s', k1, k2, k3, k4⟩ := ih (i + 1) u y g (by omega) hu hy gK (fun l hl => by rw [gne 50 (by omega) (by omega)]; exact hp l hl) (fun v hv => by rw [gne 51 (by omega) (by omega)]; exact hd v hv) (by rw [hg, wr_at, upd_at])
      generalize wyL (tgP (edE t op) a tgt c) (otN t) (nln t) tgt f u = L at *
      have eln : (l0 :: L).length = L.length + 1 := rfl
      refine ⟨s', k1, fun b hb1 hb2 => by rw [k2 b hb1 hb2, gne b hb1 hb2], ?_, fun j => ?_⟩
      · rw [k3, hg, wr_at, wr_ne _ _ _ (by omega), upd_upd, eln]
        congr 2
        omega
      · rw [k4 j, eln]
        by_cases c1 : i + 1 ≤ j ∧ j < i + 1 + L.length
        · rw [if_pos c1, if_pos (by omega)]
          obtain ⟨m, hm'⟩ : ∃ m, j - i = m + 1 := ⟨j - i - 1, by omega⟩
          rw [hm', List.getD_cons_succ]
          congr 2
          omega
        · rw [if_neg c1, hg, wr_ne _ _ _ (by omega), wr_at]
          by_cases c2 : j = i
          · rw [c2, upd_at, if_pos (by omega), Nat.sub_self]
            rfl
          · rw [upd_ne c2, if_neg (by omega)]
theorem followC (hJ : J t) (hK : K t s) (hp : ∀ l, l < nln t → s 50 l = if op l = true then nn (c * a l + 1) else 0) (hw : ∀ l, c * a l + 1 ≤ 200000) {d : Nat → Nat} (hD : rlD (edE t op) a tgt c (nld t) 268435456 d) (hd : ∀ v, v < nld t → s 51 v = nn (d v) ∧ d v ≤ 268435456) (hI : ∀ v x, v < nld t → mc (edE t op) a tgt c v x → x < 268435456) {q src : Nat} (hq : q < 12) (hT : t 45 q = nn tgt) (htg : tgt < nld t) (hS : t 44 q = nn src) (hs : src < nld t) : ∃ s', tr_follow s (nn q) = rV s' ∧ (∀ b, b ≠ 54 + q → b ≠ 66 → s' b = s b) ∧ s' 66 = upd (s 66) q (nn (pthL t op a c src tgt).length) ∧ ∀ j, j < (pthL t op a c src tgt).length → s' (54 + q) j = nn ((pthL t op a c src tgt).getD j 0) := by
  obtain ⟨ed, h8, -⟩ := nld_ok hJ
  have h44 : s 44 q = nn src := by rw [K_at hK 44 rfl]; exact hS
  obtain ⟨b1, b2⟩ := hd src hs
  rw [tr_follow_eq, nn_b (i := q) (n := 12) hq (by decide), gd_t, gd_t, nn_n (by omega), h44, nn_b (i := src) (n := 8) (by omega) (by decide), gd_t, nn_n (by omega), b1]
  by_cases h : ∃ x, mc (edE t op) a tgt c src x
  · obtain ⟨x, h⟩ := h
    have e1 := (hD src hs).1 x h (hI src x hs h)
    have hx := hI src x hs h
    rw [if_pos (show nn (d src) < 268435456 from ylt (j := 268435456) (by omega) (by omega)), pth_y h]
    obtain ⟨s', k1, k2, k3, k4⟩ := follow31C hJ hw hD hI hq hT htg 7 0 src x (wr s 66 q 0) (by omega) hs h (by
      refine ⟨fun b hb => ?_, fun k hk => ?_⟩
      · have hb' : ∀ b ∈ u0, b ≠ 66 := by decide
        rw [wr_ne _ _ _ (hb' b hb)]; exact hK.1 b hb
      · rw [wr_ne _ _ _ (by omega)]; exact hK.2 k hk) (fun l hl => by rw [wr_ne _ _ _ (by omega)]; exact hp l hl) (fun v hv => by rw [wr_ne _ _ _ (by omega)]; exact hd v hv) (by rw [wr_at, upd_at]; rfl)
    refine ⟨s', k1, fun b hb1 hb2 => by rw [k2 b hb1 hb2, wr_ne _ _ _ hb2], ?_, fun j hj => ?_⟩
    · rw [k3, wr_at, upd_upd, Nat.zero_add]
    · rw [k4 j, if_pos (by omega)]; rfl
  · have e1 := (hD src hs).2 (fun x q => h ⟨x, q⟩)
    rw [if_neg (show ¬ nn (d src) < 268435456 from nlt (j := 268435456) (by omega) (by omega)), pth_n (fun x q => h ⟨x, q⟩)]
    exact ⟨_, rfl, fun b _ hb2 => wr_ne _ _ _ hb2, wr_at _ _ _ _, fun j hj => by
      have : ([] : List Nat).length = 0 := rfl
      omega⟩
end FOL
