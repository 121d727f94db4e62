/-! THE LAW'S LOOP, out of its forty cases -/
theorem EV_keep {μ pc : Nat} {L : mL} {st : List mV} {s : mSt} {r : Option mV} {s' : mSt} (h : EV μ pc L st s = some (r, s')) : s' 265 = s 265 ∧ s' 266 = s 266 := by
  obtain ⟨n, hn⟩ := EV_iff.mp h
  exact run_PK (xs := s idScr) (ys := s idLen) n μ pc L st s ⟨rfl, rfl⟩ _ hn
theorem bI_rI {v : Int32} {s : mSt} {k : Int32 → mSt → mO} : bI (rI v s) k = k v s := rfl
theorem bV_rV {s : mSt} {k : mSt → mO} : bV (rV s) k = k s := rfl
theorem gd_t {x : mO} : gd true x = x := rfl
def CS0 (J : mSt → Prop) (f g : mSt → mO) : Prop := ∀ s, J s → ∃ v s1 s2, f s = rI v s1 ∧ g s1 = rI v s2 ∧ J s2
def CS1 {α : Type} (J : mSt → Prop) (f g : mSt → α → mO) : Prop := ∀ s a, J s → ∃ v s1 s2, f s a = rI v s1 ∧ g s1 a = rI v s2 ∧ J s2
def CS2 (J : mSt → Prop) (f g : mSt → Int32 → Int32 → mO) : Prop := ∀ s a b, J s → ∃ v s1 s2, f s a b = rI v s1 ∧ g s1 a b = rI v s2 ∧ J s2
def CS3 (J : mSt → Prop) (f g : mSt → Int32 → Int32 → Int32 → mO) : Prop := ∀ s a b c, J s → ∃ v s1 s2, f s a b c = rI v s1 ∧ g s1 a b c = rI v s2 ∧ J s2
def CS4 (J : mSt → Prop) (f g : mSt → Int32 → Int32 → Int32 → Int32 → mO) : Prop := ∀ s a b c d, J s → ∃ v s1 s2, f s a b c d = rI v s1 ∧ g s1 a b c d = rI v s2 ∧ J s2
def CS6 (J : mSt → Prop) (f g : mSt → Int32 → Int32 → Int32 → Int32 → Int32 → Int32 → mO) : Prop := ∀ s a b c d e h, J s → ∃ v s1 s2, f s a b c d e h = rI v s1 ∧ g s1 a b c d e h = rI v s2 ∧ J s2
def E1 (o : mO) : Prop := ∃ s', o = some (some (pI 1), s')
theorem E1_ite {c : Prop} [Decidable c] {a b : mO} (h : c → E1 a) (k : ¬ c → E1 b) : E1 (if c then a else b) := by
  by_cases hc : c
  · rw [if_pos hc]; exact h hc
  · rw [if_neg hc]; exact k hc
section LOOP
variable {J : mSt → Prop} {xs ys : Nat → Int32} {x3 : Int32}
def inbs (x3 : Int32) (n : Nat) : Prop := (inb (x3 + 1) n = true ∧ inb (x3 + 2) n = true ∧ inb (x3 + 3) n = true) ∧ inb (x3 + 4) n = true ∧ inb (x3 + 5) n = true ∧ inb (x3 + 6) n = true
theorem lc_208 {s : mSt} (hc : CS2 J LL_land mo_land) (hs : J s) (h5 : s 265 = xs) (h6 : s 266 = ys) (hb : inbs x3 (ys 0).toNatClampNeg) (next : ∀ s2, J s2 → s2 265 = xs → s2 266 = ys → E1 (la_law_18 s2 (x3 + 7))) : E1 (la_law_208 s x3) := by
  obtain ⟨⟨b1, b2, b3⟩, b4, b5, b6⟩ := hb
  obtain ⟨v, s1, s2, e1, e2, hs2⟩ := hc s (xs ((x3 + 1)).toNatClampNeg) (xs ((x3 + 2)).toNatClampNeg) hs
  obtain ⟨p1, p2⟩ := EV_keep e1
  obtain ⟨q1, q2⟩ := EV_keep e2
  rw [h5] at p1
  rw [h6] at p2
  rw [p1] at q1
  rw [p2] at q2
  rw [la_law_208_eq]
  simp only [h5, h6, b1, b2, b3, b4, b5, b6, gd_t, e1, bI_rI, p1, p2, e2, if_true]
  rw [la_law_1580_eq]
  exact next s2 hs2 q1 q2
theorem lc_241 {s : mSt} (hc : CS6 J LL_line mo_line) (hs : J s) (h5 : s 265 = xs) (h6 : s 266 = ys) (hb : inbs x3 (ys 0).toNatClampNeg) (next : ∀ s2, J s2 → s2 265 = xs → s2 266 = ys → E1 (la_law_18 s2 (x3 + 7))) : E1 (la_law_241 s x3) := by
  obtain ⟨⟨b1, b2, b3⟩, b4, b5, b6⟩ := hb
  obtain ⟨v, s1, s2, e1, e2, hs2⟩ := hc s (xs ((x3 + 1)).toNatClampNeg) (xs ((x3 + 2)).toNatClampNeg) (xs ((x3 + 3)).toNatClampNeg) (xs ((x3 + 4)).toNatClampNeg) (xs ((x3 + 5)).toNatClampNeg) (xs ((x3 + 6)).toNatClampNeg) hs
  obtain ⟨p1, p2⟩ := EV_keep e1
  obtain ⟨q1, q2⟩ := EV_keep e2
  rw [h5] at p1
  rw [h6] at p2
  rw [p1] at q1
  rw [p2] at q2
  rw [la_law_241_eq]
  simp only [h5, h6, b1, b2, b3, b4, b5, b6, gd_t, e1, bI_rI, p1, p2, e2, if_true]
  rw [la_law_1580_eq]
  exact next s2 hs2 q1 q2
theorem lc_316 {s : mSt} (hc : CS2 J LL_lineOf mo_lineOf) (hs : J s) (h5 : s 265 = xs) (h6 : s 266 = ys) (hb : inbs x3 (ys 0).toNatClampNeg) (next : ∀ s2, J s2 → s2 265 = xs → s2 266 = ys → E1 (la_law_18 s2 (x3 + 7))) : E1 (la_law_316 s x3) := by
  obtain ⟨⟨b1, b2, b3⟩, b4, b5, b6⟩ := hb
  obtain ⟨v, s1, s2, e1, e2, hs2⟩ := hc s (xs ((x3 + 1)).toNatClampNeg) (xs ((x3 + 2)).toNatClampNeg) hs
  obtain ⟨p1, p2⟩ := EV_keep e1
  obtain ⟨q1, q2⟩ := EV_keep e2
  rw [h5] at p1
  rw [h6] at p2
  rw [p1] at q1
  rw [p2] at q2
  rw [la_law_316_eq]
  simp only [h5, h6, b1, b2, b3, b4, b5, b6, gd_t, e1, bI_rI, p1, p2, e2, if_true]
  rw [la_law_1580_eq]
  exact next s2 hs2 q1 q2
theorem lc_349 {s : mSt} (hc : CS1 J LL_light mo_light) (hs : J s) (h5 : s 265 = xs) (h6 : s 266 = ys) (hb : inbs x3 (ys 0).toNatClampNeg) (next : ∀ s2, J s2 → s2 265 = xs → s2 266 = ys → E1 (la_law_18 s2 (x3 + 7))) : E1 (la_law_349 s x3) := by
  obtain ⟨⟨b1, b2, b3⟩, b4, b5, b6⟩ := hb
  obtain ⟨v, s1, s2, e1, e2, hs2⟩ := hc s (xs ((x3 + 1)).toNatClampNeg) hs
  obtain ⟨p1, p2⟩ := EV_keep e1
  obtain ⟨q1, q2⟩ := EV_keep e2
  rw [h5] at p1
  rw [h6] at p2
  rw [p1] at q1
  rw [p2] at q2
  rw [la_law_349_eq]
  simp only [h5, h6, b1, b2, b3, b4, b5, b6, gd_t, e1, bI_rI, p1, p2, e2, if_true]
  rw [la_law_1580_eq]
  exact next s2 hs2 q1 q2
theorem lc_372 {s : mSt} (hc : CS1 J LL_until mo_until) (hs : J s) (h5 : s 265 = xs) (h6 : s 266 = ys) (hb : inbs x3 (ys 0).toNatClampNeg) (next : ∀ s2, J s2 → s2 265 = xs → s2 266 = ys → E1 (la_law_18 s2 (x3 + 7))) : E1 (la_law_372 s x3) := by
  obtain ⟨⟨b1, b2, b3⟩, b4, b5, b6⟩ := hb
  obtain ⟨v, s1, s2, e1, e2, hs2⟩ := hc s (xs ((x3 + 1)).toNatClampNeg) hs
  obtain ⟨p1, p2⟩ := EV_keep e1
  obtain ⟨q1, q2⟩ := EV_keep e2
  rw [h5] at p1
  rw [h6] at p2
  rw [p1] at q1
  rw [p2] at q2
  rw [la_law_372_eq]
  simp only [h5, h6, b1, b2, b3, b4, b5, b6, gd_t, e1, bI_rI, p1, p2, e2, if_true]
  rw [la_law_1580_eq]
  exact next s2 hs2 q1 q2
theorem lc_395 {s : mSt} (hc : CS3 J LL_change mo_change) (hs : J s) (h5 : s 265 = xs) (h6 : s 266 = ys) (hb : inbs x3 (ys 0).toNatClampNeg) (next : ∀ s2, J s2 → s2 265 = xs → s2 266 = ys → E1 (la_law_18 s2 (x3 + 7))) : E1 (la_law_395 s x3) := by
  obtain ⟨⟨b1, b2, b3⟩, b4, b5, b6⟩ := hb
  obtain ⟨v, s1, s2, e1, e2, hs2⟩ := hc s (xs ((x3 + 1)).toNatClampNeg) (xs ((x3 + 2)).toNatClampNeg) (xs ((x3 + 3)).toNatClampNeg) hs
  obtain ⟨p1, p2⟩ := EV_keep e1
  obtain ⟨q1, q2⟩ := EV_keep e2
  rw [h5] at p1
  rw [h6] at p2
  rw [p1] at q1
  rw [p2] at q2
  rw [la_law_395_eq]
  simp only [h5, h6, b1, b2, b3, b4, b5, b6, gd_t, e1, bI_rI, p1, p2, e2, if_true]
  rw [la_law_1580_eq]
  exact next s2 hs2 q1 q2
theorem lc_438 {s : mSt} (hc : CS1 J LL_year mo_year) (hs : J s) (h5 : s 265 = xs) (h6 : s 266 = ys) (hb : inbs x3 (ys 0).toNatClampNeg) (next : ∀ s2, J s2 → s2 265 = xs → s2 266 = ys → E1 (la_law_18 s2 (x3 + 7))) : E1 (la_law_438 s x3) := by
  obtain ⟨⟨b1, b2, b3⟩, b4, b5, b6⟩ := hb
  obtain ⟨v, s1, s2, e1, e2, hs2⟩ := hc s (xs ((x3 + 1)).toNatClampNeg) hs
  obtain ⟨p1, p2⟩ := EV_keep e1
  obtain ⟨q1, q2⟩ := EV_keep e2
  rw [h5] at p1
  rw [h6] at p2
  rw [p1] at q1
  rw [p2] at q2
  rw [la_law_438_eq]
  simp only [h5, h6, b1, b2, b3, b4, b5, b6, gd_t, e1, bI_rI, p1, p2, e2, if_true]
  rw [la_law_1580_eq]
  exact next s2 hs2 q1 q2
theorem lc_461 {s : mSt} (hc : CS1 J LL_hour mo_hour) (hs : J s) (h5 : s 265 = xs) (h6 : s 266 = ys) (hb : inbs x3 (ys 0).toNatClampNeg) (next : ∀ s2, J s2 → s2 265 = xs → s2 266 = ys → E1 (la_law_18 s2 (x3 + 7))) : E1 (la_law_461 s x3) := by
  obtain ⟨⟨b1, b2, b3⟩, b4, b5, b6⟩ := hb
  obtain ⟨v, s1, s2, e1, e2, hs2⟩ := hc s (xs ((x3 + 1)).toNatClampNeg) hs
  obtain ⟨p1, p2⟩ := EV_keep e1
  obtain ⟨q1, q2⟩ := EV_keep e2
  rw [h5] at p1
  rw [h6] at p2
  rw [p1] at q1
  rw [p2] at q2
  rw [la_law_461_eq]
  simp only [h5, h6, b1, b2, b3, b4, b5, b6, gd_t, e1, bI_rI, p1, p2, e2, if_true]
  rw [la_law_1580_eq]
  exact next s2 hs2 q1 q2
theorem lc_484 {s : mSt} (hc : CS1 J LL_feed mo_feed) (hs : J s) (h5 : s 265 = xs) (h6 : s 266 = ys) (hb : inbs x3 (ys 0).toNatClampNeg) (next : ∀ s2, J s2 → s2 265 = xs → s2 266 = ys → E1 (la_law_18 s2 (x3 + 7))) : E1 (la_law_484 s x3) := by
  obtain ⟨⟨b1, b2, b3⟩, b4, b5, b6⟩ := hb
  obtain ⟨v, s1, s2, e1, e2, hs2⟩ := hc s (((xs ((x3 + 1)).toNatClampNeg).toInt64 <<< ((32 : Int32).toInt64 &&& 63)) ||| ((xs ((x3 + 2)).toNatClampNeg).toInt64 &&& 4294967295)) hs
  obtain ⟨p1, p2⟩ := EV_keep e1
  obtain ⟨q1, q2⟩ := EV_keep e2
  rw [h5] at p1
  rw [h6] at p2
  rw [p1] at q1
  rw [p2] at q2
  rw [la_law_484_eq]
  simp only [h5, h6, b1, b2, b3, b4, b5, b6, gd_t, e1, bI_rI, p1, p2, e2, if_true]
  rw [la_law_1580_eq]
  exact next s2 hs2 q1 q2
theorem lc_537 {s : mSt} (hc : CS1 J LL_end mo_end) (hs : J s) (h5 : s 265 = xs) (h6 : s 266 = ys) (hb : inbs x3 (ys 0).toNatClampNeg) (next : ∀ s2, J s2 → s2 265 = xs → s2 266 = ys → E1 (la_law_18 s2 (x3 + 7))) : E1 (la_law_537 s x3) := by
  obtain ⟨⟨b1, b2, b3⟩, b4, b5, b6⟩ := hb
  obtain ⟨v, s1, s2, e1, e2, hs2⟩ := hc s (xs ((x3 + 1)).toNatClampNeg) hs
  obtain ⟨p1, p2⟩ := EV_keep e1
  obtain ⟨q1, q2⟩ := EV_keep e2
  rw [h5] at p1
  rw [h6] at p2
  rw [p1] at q1
  rw [p2] at q2
  rw [la_law_537_eq]
  simp only [h5, h6, b1, b2, b3, b4, b5, b6, gd_t, e1, bI_rI, p1, p2, e2, if_true]
  rw [la_law_1580_eq]
  exact next s2 hs2 q1 q2
theorem lc_560 {s : mSt} (hc : CS0 J LL_rules mo_rules) (hs : J s) (h5 : s 265 = xs) (h6 : s 266 = ys) (hb : inbs x3 (ys 0).toNatClampNeg) (next : ∀ s2, J s2 → s2 265 = xs → s2 266 = ys → E1 (la_law_18 s2 (x3 + 7))) : E1 (la_law_560 s x3) := by
  obtain ⟨⟨b1, b2, b3⟩, b4, b5, b6⟩ := hb
  obtain ⟨v, s1, s2, e1, e2, hs2⟩ := hc s  hs
  obtain ⟨p1, p2⟩ := EV_keep e1
  obtain ⟨q1, q2⟩ := EV_keep e2
  rw [h5] at p1
  rw [h6] at p2
  rw [p1] at q1
  rw [p2] at q2
  rw [la_law_560_eq]
  simp only [h5, h6, b1, b2, b3, b4, b5, b6, gd_t, e1, bI_rI, p1, p2, e2, if_true]
  rw [la_law_1580_eq]
  exact next s2 hs2 q1 q2
theorem lc_573 {s : mSt} (hc : CS0 J LL_fault mo_fault) (hs : J s) (h5 : s 265 = xs) (h6 : s 266 = ys) (hb : inbs x3 (ys 0).toNatClampNeg) (next : ∀ s2, J s2 → s2 265 = xs → s2 266 = ys → E1 (la_law_18 s2 (x3 + 7))) : E1 (la_law_573 s x3) := by
  obtain ⟨⟨b1, b2, b3⟩, b4, b5, b6⟩ := hb
  obtain ⟨v, s1, s2, e1, e2, hs2⟩ := hc s  hs
  obtain ⟨p1, p2⟩ := EV_keep e1
  obtain ⟨q1, q2⟩ := EV_keep e2
  rw [h5] at p1
  rw [h6] at p2
  rw [p1] at q1
  rw [p2] at q2
  rw [la_law_573_eq]
  simp only [h5, h6, b1, b2, b3, b4, b5, b6, gd_t, e1, bI_rI, p1, p2, e2, if_true]
  rw [la_law_1580_eq]
  exact next s2 hs2 q1 q2
theorem lc_586 {s : mSt} (hc : CS1 J LL_rule mo_rule) (hs : J s) (h5 : s 265 = xs) (h6 : s 266 = ys) (hb : inbs x3 (ys 0).toNatClampNeg) (next : ∀ s2, J s2 → s2 265 = xs → s2 266 = ys → E1 (la_law_18 s2 (x3 + 7))) : E1 (la_law_586 s x3) := by
  obtain ⟨⟨b1, b2, b3⟩, b4, b5, b6⟩ := hb
  obtain ⟨v, s1, s2, e1, e2, hs2⟩ := hc s (xs ((x3 + 1)).toNatClampNeg) hs
  obtain ⟨p1, p2⟩ := EV_keep e1
  obtain ⟨q1, q2⟩ := EV_keep e2
  rw [h5] at p1
  rw [h6] at p2
  rw [p1] at q1
  rw [p2] at q2
  rw [la_law_586_eq]
  simp only [h5, h6, b1, b2, b3, b4, b5, b6, gd_t, e1, bI_rI, p1, p2, e2, if_true]
  rw [la_law_1580_eq]
  exact next s2 hs2 q1 q2
theorem lc_609 {s : mSt} (hc : CS2 J LL_rent mo_rent) (hs : J s) (h5 : s 265 = xs) (h6 : s 266 = ys) (hb : inbs x3 (ys 0).toNatClampNeg) (next : ∀ s2, J s2 → s2 265 = xs → s2 266 = ys → E1 (la_law_18 s2 (x3 + 7))) : E1 (la_law_609 s x3) := by
  obtain ⟨⟨b1, b2, b3⟩, b4, b5, b6⟩ := hb
  obtain ⟨v, s1, s2, e1, e2, hs2⟩ := hc s (xs ((x3 + 1)).toNatClampNeg) (xs ((x3 + 2)).toNatClampNeg) hs
  obtain ⟨p1, p2⟩ := EV_keep e1
  obtain ⟨q1, q2⟩ := EV_keep e2
  rw [h5] at p1
  rw [h6] at p2
  rw [p1] at q1
  rw [p2] at q2
  rw [la_law_609_eq]
  simp only [h5, h6, b1, b2, b3, b4, b5, b6, gd_t, e1, bI_rI, p1, p2, e2, if_true]
  rw [la_law_1580_eq]
  exact next s2 hs2 q1 q2
theorem lc_642 {s : mSt} (hc : CS3 J LL_demand mo_demand) (hs : J s) (h5 : s 265 = xs) (h6 : s 266 = ys) (hb : inbs x3 (ys 0).toNatClampNeg) (next : ∀ s2, J s2 → s2 265 = xs → s2 266 = ys → E1 (la_law_18 s2 (x3 + 7))) : E1 (la_law_642 s x3) := by
  obtain ⟨⟨b1, b2, b3⟩, b4, b5, b6⟩ := hb
  obtain ⟨v, s1, s2, e1, e2, hs2⟩ := hc s (xs ((x3 + 1)).toNatClampNeg) (xs ((x3 + 2)).toNatClampNeg) (xs ((x3 + 3)).toNatClampNeg) hs
  obtain ⟨p1, p2⟩ := EV_keep e1
  obtain ⟨q1, q2⟩ := EV_keep e2
  rw [h5] at p1
  rw [h6] at p2
  rw [p1] at q1
  rw [p2] at q2
  rw [la_law_642_eq]
  simp only [h5, h6, b1, b2, b3, b4, b5, b6, gd_t, e1, bI_rI, p1, p2, e2, if_true]
  rw [la_law_1580_eq]
  exact next s2 hs2 q1 q2
theorem lc_685 {s : mSt} (hc : CS2 J LL_much mo_much) (hs : J s) (h5 : s 265 = xs) (h6 : s 266 = ys) (hb : inbs x3 (ys 0).toNatClampNeg) (next : ∀ s2, J s2 → s2 265 = xs → s2 266 = ys → E1 (la_law_18 s2 (x3 + 7))) : E1 (la_law_685 s x3) := by
  obtain ⟨⟨b1, b2, b3⟩, b4, b5, b6⟩ := hb
  obtain ⟨v, s1, s2, e1, e2, hs2⟩ := hc s (xs ((x3 + 1)).toNatClampNeg) (xs ((x3 + 2)).toNatClampNeg) hs
  obtain ⟨p1, p2⟩ := EV_keep e1
  obtain ⟨q1, q2⟩ := EV_keep e2
  rw [h5] at p1
  rw [h6] at p2
  rw [p1] at q1
  rw [p2] at q2
  rw [la_law_685_eq]
  simp only [h5, h6, b1, b2, b3, b4, b5, b6, gd_t, e1, bI_rI, p1, p2, e2, if_true]
  rw [la_law_1580_eq]
  exact next s2 hs2 q1 q2
theorem lc_718 {s : mSt} (hc : CS1 J LL_led mo_led) (hs : J s) (h5 : s 265 = xs) (h6 : s 266 = ys) (hb : inbs x3 (ys 0).toNatClampNeg) (next : ∀ s2, J s2 → s2 265 = xs → s2 266 = ys → E1 (la_law_18 s2 (x3 + 7))) : E1 (la_law_718 s x3) := by
  obtain ⟨⟨b1, b2, b3⟩, b4, b5, b6⟩ := hb
  obtain ⟨v, s1, s2, e1, e2, hs2⟩ := hc s (xs ((x3 + 1)).toNatClampNeg) hs
  obtain ⟨p1, p2⟩ := EV_keep e1
  obtain ⟨q1, q2⟩ := EV_keep e2
  rw [h5] at p1
  rw [h6] at p2
  rw [p1] at q1
  rw [p2] at q2
  rw [la_law_718_eq]
  simp only [h5, h6, b1, b2, b3, b4, b5, b6, gd_t, e1, bI_rI, p1, p2, e2, if_true]
  rw [la_law_1580_eq]
  exact next s2 hs2 q1 q2
theorem lc_741 {s : mSt} (hc : CS2 J LL_way mo_way) (hs : J s) (h5 : s 265 = xs) (h6 : s 266 = ys) (hb : inbs x3 (ys 0).toNatClampNeg) (next : ∀ s2, J s2 → s2 265 = xs → s2 266 = ys → E1 (la_law_18 s2 (x3 + 7))) : E1 (la_law_741 s x3) := by
  obtain ⟨⟨b1, b2, b3⟩, b4, b5, b6⟩ := hb
  obtain ⟨v, s1, s2, e1, e2, hs2⟩ := hc s (xs ((x3 + 1)).toNatClampNeg) (xs ((x3 + 2)).toNatClampNeg) hs
  obtain ⟨p1, p2⟩ := EV_keep e1
  obtain ⟨q1, q2⟩ := EV_keep e2
  rw [h5] at p1
  rw [h6] at p2
  rw [p1] at q1
  rw [p2] at q2
  rw [la_law_741_eq]
  simp only [h5, h6, b1, b2, b3, b4, b5, b6, gd_t, e1, bI_rI, p1, p2, e2, if_true]
  rw [la_law_1580_eq]
  exact next s2 hs2 q1 q2
theorem lc_774 {s : mSt} (hc : CS3 J LL_parts mo_parts) (hs : J s) (h5 : s 265 = xs) (h6 : s 266 = ys) (hb : inbs x3 (ys 0).toNatClampNeg) (next : ∀ s2, J s2 → s2 265 = xs → s2 266 = ys → E1 (la_law_18 s2 (x3 + 7))) : E1 (la_law_774 s x3) := by
  obtain ⟨⟨b1, b2, b3⟩, b4, b5, b6⟩ := hb
  obtain ⟨v, s1, s2, e1, e2, hs2⟩ := hc s (xs ((x3 + 1)).toNatClampNeg) (xs ((x3 + 2)).toNatClampNeg) (xs ((x3 + 3)).toNatClampNeg) hs
  obtain ⟨p1, p2⟩ := EV_keep e1
  obtain ⟨q1, q2⟩ := EV_keep e2
  rw [h5] at p1
  rw [h6] at p2
  rw [p1] at q1
  rw [p2] at q2
  rw [la_law_774_eq]
  simp only [h5, h6, b1, b2, b3, b4, b5, b6, gd_t, e1, bI_rI, p1, p2, e2, if_true]
  rw [la_law_1580_eq]
  exact next s2 hs2 q1 q2
theorem lc_817 {s : mSt} (hc : CS2 J LL_worst mo_worst) (hs : J s) (h5 : s 265 = xs) (h6 : s 266 = ys) (hb : inbs x3 (ys 0).toNatClampNeg) (next : ∀ s2, J s2 → s2 265 = xs → s2 266 = ys → E1 (la_law_18 s2 (x3 + 7))) : E1 (la_law_817 s x3) := by
  obtain ⟨⟨b1, b2, b3⟩, b4, b5, b6⟩ := hb
  obtain ⟨v, s1, s2, e1, e2, hs2⟩ := hc s (xs ((x3 + 1)).toNatClampNeg) (xs ((x3 + 2)).toNatClampNeg) hs
  obtain ⟨p1, p2⟩ := EV_keep e1
  obtain ⟨q1, q2⟩ := EV_keep e2
  rw [h5] at p1
  rw [h6] at p2
  rw [p1] at q1
  rw [p2] at q2
  rw [la_law_817_eq]
  simp only [h5, h6, b1, b2, b3, b4, b5, b6, gd_t, e1, bI_rI, p1, p2, e2, if_true]
  rw [la_law_1580_eq]
  exact next s2 hs2 q1 q2
theorem lc_850 {s : mSt} (hc : CS3 J LL_swing mo_swing) (hs : J s) (h5 : s 265 = xs) (h6 : s 266 = ys) (hb : inbs x3 (ys 0).toNatClampNeg) (next : ∀ s2, J s2 → s2 265 = xs → s2 266 = ys → E1 (la_law_18 s2 (x3 + 7))) : E1 (la_law_850 s x3) := by
  obtain ⟨⟨b1, b2, b3⟩, b4, b5, b6⟩ := hb
  obtain ⟨v, s1, s2, e1, e2, hs2⟩ := hc s (xs ((x3 + 1)).toNatClampNeg) (xs ((x3 + 2)).toNatClampNeg) (xs ((x3 + 3)).toNatClampNeg) hs
  obtain ⟨p1, p2⟩ := EV_keep e1
  obtain ⟨q1, q2⟩ := EV_keep e2
  rw [h5] at p1
  rw [h6] at p2
  rw [p1] at q1
  rw [p2] at q2
  rw [la_law_850_eq]
  simp only [h5, h6, b1, b2, b3, b4, b5, b6, gd_t, e1, bI_rI, p1, p2, e2, if_true]
  rw [la_law_1580_eq]
  exact next s2 hs2 q1 q2
theorem lc_893 {s : mSt} (hc : CS1 J LL_swings mo_swings) (hs : J s) (h5 : s 265 = xs) (h6 : s 266 = ys) (hb : inbs x3 (ys 0).toNatClampNeg) (next : ∀ s2, J s2 → s2 265 = xs → s2 266 = ys → E1 (la_law_18 s2 (x3 + 7))) : E1 (la_law_893 s x3) := by
  obtain ⟨⟨b1, b2, b3⟩, b4, b5, b6⟩ := hb
  obtain ⟨v, s1, s2, e1, e2, hs2⟩ := hc s (xs ((x3 + 1)).toNatClampNeg) hs
  obtain ⟨p1, p2⟩ := EV_keep e1
  obtain ⟨q1, q2⟩ := EV_keep e2
  rw [h5] at p1
  rw [h6] at p2
  rw [p1] at q1
  rw [p2] at q2
  rw [la_law_893_eq]
  simp only [h5, h6, b1, b2, b3, b4, b5, b6, gd_t, e1, bI_rI, p1, p2, e2, if_true]
  rw [la_law_1580_eq]
  exact next s2 hs2 q1 q2
theorem lc_916 {s : mSt} (hc : CS2 J LL_cut mo_cut) (hs : J s) (h5 : s 265 = xs) (h6 : s 266 = ys) (hb : inbs x3 (ys 0).toNatClampNeg) (next : ∀ s2, J s2 → s2 265 = xs → s2 266 = ys → E1 (la_law_18 s2 (x3 + 7))) : E1 (la_law_916 s x3) := by
  obtain ⟨⟨b1, b2, b3⟩, b4, b5, b6⟩ := hb
  obtain ⟨v, s1, s2, e1, e2, hs2⟩ := hc s (xs ((x3 + 1)).toNatClampNeg) (xs ((x3 + 2)).toNatClampNeg) hs
  obtain ⟨p1, p2⟩ := EV_keep e1
  obtain ⟨q1, q2⟩ := EV_keep e2
  rw [h5] at p1
  rw [h6] at p2
  rw [p1] at q1
  rw [p2] at q2
  rw [la_law_916_eq]
  simp only [h5, h6, b1, b2, b3, b4, b5, b6, gd_t, e1, bI_rI, p1, p2, e2, if_true]
  rw [la_law_1580_eq]
  exact next s2 hs2 q1 q2
theorem lc_949 {s : mSt} (hc : CS4 J LL_echo mo_echo) (hs : J s) (h5 : s 265 = xs) (h6 : s 266 = ys) (hb : inbs x3 (ys 0).toNatClampNeg) (next : ∀ s2, J s2 → s2 265 = xs → s2 266 = ys → E1 (la_law_18 s2 (x3 + 7))) : E1 (la_law_949 s x3) := by
  obtain ⟨⟨b1, b2, b3⟩, b4, b5, b6⟩ := hb
  obtain ⟨v, s1, s2, e1, e2, hs2⟩ := hc s (xs ((x3 + 1)).toNatClampNeg) (xs ((x3 + 2)).toNatClampNeg) (xs ((x3 + 3)).toNatClampNeg) (xs ((x3 + 4)).toNatClampNeg) hs
  obtain ⟨p1, p2⟩ := EV_keep e1
  obtain ⟨q1, q2⟩ := EV_keep e2
  rw [h5] at p1
  rw [h6] at p2
  rw [p1] at q1
  rw [p2] at q2
  rw [la_law_949_eq]
  simp only [h5, h6, b1, b2, b3, b4, b5, b6, gd_t, e1, bI_rI, p1, p2, e2, if_true]
  rw [la_law_1580_eq]
  exact next s2 hs2 q1 q2
theorem lc_1002 {s : mSt} (hc : CS2 J LL_breakOf mo_breakOf) (hs : J s) (h5 : s 265 = xs) (h6 : s 266 = ys) (hb : inbs x3 (ys 0).toNatClampNeg) (next : ∀ s2, J s2 → s2 265 = xs → s2 266 = ys → E1 (la_law_18 s2 (x3 + 7))) : E1 (la_law_1002 s x3) := by
  obtain ⟨⟨b1, b2, b3⟩, b4, b5, b6⟩ := hb
  obtain ⟨v, s1, s2, e1, e2, hs2⟩ := hc s (xs ((x3 + 1)).toNatClampNeg) (xs ((x3 + 2)).toNatClampNeg) hs
  obtain ⟨p1, p2⟩ := EV_keep e1
  obtain ⟨q1, q2⟩ := EV_keep e2
  rw [h5] at p1
  rw [h6] at p2
  rw [p1] at q1
  rw [p2] at q2
  rw [la_law_1002_eq]
  simp only [h5, h6, b1, b2, b3, b4, b5, b6, gd_t, e1, bI_rI, p1, p2, e2, if_true]
  rw [la_law_1580_eq]
  exact next s2 hs2 q1 q2
theorem lc_1035 {s : mSt} (hc : CS4 J LL_quake mo_quake) (hs : J s) (h5 : s 265 = xs) (h6 : s 266 = ys) (hb : inbs x3 (ys 0).toNatClampNeg) (next : ∀ s2, J s2 → s2 265 = xs → s2 266 = ys → E1 (la_law_18 s2 (x3 + 7))) : E1 (la_law_1035 s x3) := by
  obtain ⟨⟨b1, b2, b3⟩, b4, b5, b6⟩ := hb
  obtain ⟨v, s1, s2, e1, e2, hs2⟩ := hc s (xs ((x3 + 1)).toNatClampNeg) (xs ((x3 + 2)).toNatClampNeg) (xs ((x3 + 3)).toNatClampNeg) (xs ((x3 + 4)).toNatClampNeg) hs
  obtain ⟨p1, p2⟩ := EV_keep e1
  obtain ⟨q1, q2⟩ := EV_keep e2
  rw [h5] at p1
  rw [h6] at p2
  rw [p1] at q1
  rw [p2] at q2
  rw [la_law_1035_eq]
  simp only [h5, h6, b1, b2, b3, b4, b5, b6, gd_t, e1, bI_rI, p1, p2, e2, if_true]
  rw [la_law_1580_eq]
  exact next s2 hs2 q1 q2
theorem lc_1088 {s : mSt} (hc : CS3 J LL_shared mo_shared) (hs : J s) (h5 : s 265 = xs) (h6 : s 266 = ys) (hb : inbs x3 (ys 0).toNatClampNeg) (next : ∀ s2, J s2 → s2 265 = xs → s2 266 = ys → E1 (la_law_18 s2 (x3 + 7))) : E1 (la_law_1088 s x3) := by
  obtain ⟨⟨b1, b2, b3⟩, b4, b5, b6⟩ := hb
  obtain ⟨v, s1, s2, e1, e2, hs2⟩ := hc s (xs ((x3 + 1)).toNatClampNeg) (xs ((x3 + 2)).toNatClampNeg) (xs ((x3 + 3)).toNatClampNeg) hs
  obtain ⟨p1, p2⟩ := EV_keep e1
  obtain ⟨q1, q2⟩ := EV_keep e2
  rw [h5] at p1
  rw [h6] at p2
  rw [p1] at q1
  rw [p2] at q2
  rw [la_law_1088_eq]
  simp only [h5, h6, b1, b2, b3, b4, b5, b6, gd_t, e1, bI_rI, p1, p2, e2, if_true]
  rw [la_law_1580_eq]
  exact next s2 hs2 q1 q2
theorem lc_1131 {s : mSt} (hc : CS3 J LL_ship mo_ship) (hs : J s) (h5 : s 265 = xs) (h6 : s 266 = ys) (hb : inbs x3 (ys 0).toNatClampNeg) (next : ∀ s2, J s2 → s2 265 = xs → s2 266 = ys → E1 (la_law_18 s2 (x3 + 7))) : E1 (la_law_1131 s x3) := by
  obtain ⟨⟨b1, b2, b3⟩, b4, b5, b6⟩ := hb
  obtain ⟨v, s1, s2, e1, e2, hs2⟩ := hc s (xs ((x3 + 1)).toNatClampNeg) (xs ((x3 + 2)).toNatClampNeg) (xs ((x3 + 3)).toNatClampNeg) hs
  obtain ⟨p1, p2⟩ := EV_keep e1
  obtain ⟨q1, q2⟩ := EV_keep e2
  rw [h5] at p1
  rw [h6] at p2
  rw [p1] at q1
  rw [p2] at q2
  rw [la_law_1131_eq]
  simp only [h5, h6, b1, b2, b3, b4, b5, b6, gd_t, e1, bI_rI, p1, p2, e2, if_true]
  rw [la_law_1580_eq]
  exact next s2 hs2 q1 q2
theorem lc_1174 {s : mSt} (hc : CS2 J LL_shipOf mo_shipOf) (hs : J s) (h5 : s 265 = xs) (h6 : s 266 = ys) (hb : inbs x3 (ys 0).toNatClampNeg) (next : ∀ s2, J s2 → s2 265 = xs → s2 266 = ys → E1 (la_law_18 s2 (x3 + 7))) : E1 (la_law_1174 s x3) := by
  obtain ⟨⟨b1, b2, b3⟩, b4, b5, b6⟩ := hb
  obtain ⟨v, s1, s2, e1, e2, hs2⟩ := hc s (xs ((x3 + 1)).toNatClampNeg) (xs ((x3 + 2)).toNatClampNeg) hs
  obtain ⟨p1, p2⟩ := EV_keep e1
  obtain ⟨q1, q2⟩ := EV_keep e2
  rw [h5] at p1
  rw [h6] at p2
  rw [p1] at q1
  rw [p2] at q2
  rw [la_law_1174_eq]
  simp only [h5, h6, b1, b2, b3, b4, b5, b6, gd_t, e1, bI_rI, p1, p2, e2, if_true]
  rw [la_law_1580_eq]
  exact next s2 hs2 q1 q2
theorem lc_1207 {s : mSt} (hc : CS2 J LL_send mo_send) (hs : J s) (h5 : s 265 = xs) (h6 : s 266 = ys) (hb : inbs x3 (ys 0).toNatClampNeg) (next : ∀ s2, J s2 → s2 265 = xs → s2 266 = ys → E1 (la_law_18 s2 (x3 + 7))) : E1 (la_law_1207 s x3) := by
  obtain ⟨⟨b1, b2, b3⟩, b4, b5, b6⟩ := hb
  obtain ⟨v, s1, s2, e1, e2, hs2⟩ := hc s (xs ((x3 + 1)).toNatClampNeg) (xs ((x3 + 2)).toNatClampNeg) hs
  obtain ⟨p1, p2⟩ := EV_keep e1
  obtain ⟨q1, q2⟩ := EV_keep e2
  rw [h5] at p1
  rw [h6] at p2
  rw [p1] at q1
  rw [p2] at q2
  rw [la_law_1207_eq]
  simp only [h5, h6, b1, b2, b3, b4, b5, b6, gd_t, e1, bI_rI, p1, p2, e2, if_true]
  rw [la_law_1580_eq]
  exact next s2 hs2 q1 q2
theorem lc_1240 {s : mSt} (hc : CS1 J LL_order mo_order) (hs : J s) (h5 : s 265 = xs) (h6 : s 266 = ys) (hb : inbs x3 (ys 0).toNatClampNeg) (next : ∀ s2, J s2 → s2 265 = xs → s2 266 = ys → E1 (la_law_18 s2 (x3 + 7))) : E1 (la_law_1240 s x3) := by
  obtain ⟨⟨b1, b2, b3⟩, b4, b5, b6⟩ := hb
  obtain ⟨v, s1, s2, e1, e2, hs2⟩ := hc s (xs ((x3 + 1)).toNatClampNeg) hs
  obtain ⟨p1, p2⟩ := EV_keep e1
  obtain ⟨q1, q2⟩ := EV_keep e2
  rw [h5] at p1
  rw [h6] at p2
  rw [p1] at q1
  rw [p2] at q2
  rw [la_law_1240_eq]
  simp only [h5, h6, b1, b2, b3, b4, b5, b6, gd_t, e1, bI_rI, p1, p2, e2, if_true]
  rw [la_law_1580_eq]
  exact next s2 hs2 q1 q2
theorem lc_1263 {s : mSt} (hc : CS1 J LL_plain mo_plain) (hs : J s) (h5 : s 265 = xs) (h6 : s 266 = ys) (hb : inbs x3 (ys 0).toNatClampNeg) (next : ∀ s2, J s2 → s2 265 = xs → s2 266 = ys → E1 (la_law_18 s2 (x3 + 7))) : E1 (la_law_1263 s x3) := by
  obtain ⟨⟨b1, b2, b3⟩, b4, b5, b6⟩ := hb
  obtain ⟨v, s1, s2, e1, e2, hs2⟩ := hc s (xs ((x3 + 1)).toNatClampNeg) hs
  obtain ⟨p1, p2⟩ := EV_keep e1
  obtain ⟨q1, q2⟩ := EV_keep e2
  rw [h5] at p1
  rw [h6] at p2
  rw [p1] at q1
  rw [p2] at q2
  rw [la_law_1263_eq]
  simp only [h5, h6, b1, b2, b3, b4, b5, b6, gd_t, e1, bI_rI, p1, p2, e2, if_true]
  rw [la_law_1580_eq]
  exact next s2 hs2 q1 q2
theorem lc_1286 {s : mSt} (hc : CS2 J LL_owed mo_owed) (hs : J s) (h5 : s 265 = xs) (h6 : s 266 = ys) (hb : inbs x3 (ys 0).toNatClampNeg) (next : ∀ s2, J s2 → s2 265 = xs → s2 266 = ys → E1 (la_law_18 s2 (x3 + 7))) : E1 (la_law_1286 s x3) := by
  obtain ⟨⟨b1, b2, b3⟩, b4, b5, b6⟩ := hb
  obtain ⟨v, s1, s2, e1, e2, hs2⟩ := hc s (xs ((x3 + 1)).toNatClampNeg) (xs ((x3 + 2)).toNatClampNeg) hs
  obtain ⟨p1, p2⟩ := EV_keep e1
  obtain ⟨q1, q2⟩ := EV_keep e2
  rw [h5] at p1
  rw [h6] at p2
  rw [p1] at q1
  rw [p2] at q2
  rw [la_law_1286_eq]
  simp only [h5, h6, b1, b2, b3, b4, b5, b6, gd_t, e1, bI_rI, p1, p2, e2, if_true]
  rw [la_law_1580_eq]
  exact next s2 hs2 q1 q2
theorem lc_1319 {s : mSt} (hc : CS2 J LL_paid mo_paid) (hs : J s) (h5 : s 265 = xs) (h6 : s 266 = ys) (hb : inbs x3 (ys 0).toNatClampNeg) (next : ∀ s2, J s2 → s2 265 = xs → s2 266 = ys → E1 (la_law_18 s2 (x3 + 7))) : E1 (la_law_1319 s x3) := by
  obtain ⟨⟨b1, b2, b3⟩, b4, b5, b6⟩ := hb
  obtain ⟨v, s1, s2, e1, e2, hs2⟩ := hc s (xs ((x3 + 1)).toNatClampNeg) (xs ((x3 + 2)).toNatClampNeg) hs
  obtain ⟨p1, p2⟩ := EV_keep e1
  obtain ⟨q1, q2⟩ := EV_keep e2
  rw [h5] at p1
  rw [h6] at p2
  rw [p1] at q1
  rw [p2] at q2
  rw [la_law_1319_eq]
  simp only [h5, h6, b1, b2, b3, b4, b5, b6, gd_t, e1, bI_rI, p1, p2, e2, if_true]
  rw [la_law_1580_eq]
  exact next s2 hs2 q1 q2
theorem lc_1352 {s : mSt} (hc : CS3 J LL_plan mo_plan) (hs : J s) (h5 : s 265 = xs) (h6 : s 266 = ys) (hb : inbs x3 (ys 0).toNatClampNeg) (next : ∀ s2, J s2 → s2 265 = xs → s2 266 = ys → E1 (la_law_18 s2 (x3 + 7))) : E1 (la_law_1352 s x3) := by
  obtain ⟨⟨b1, b2, b3⟩, b4, b5, b6⟩ := hb
  obtain ⟨v, s1, s2, e1, e2, hs2⟩ := hc s (xs ((x3 + 1)).toNatClampNeg) (xs ((x3 + 2)).toNatClampNeg) (xs ((x3 + 3)).toNatClampNeg) hs
  obtain ⟨p1, p2⟩ := EV_keep e1
  obtain ⟨q1, q2⟩ := EV_keep e2
  rw [h5] at p1
  rw [h6] at p2
  rw [p1] at q1
  rw [p2] at q2
  rw [la_law_1352_eq]
  simp only [h5, h6, b1, b2, b3, b4, b5, b6, gd_t, e1, bI_rI, p1, p2, e2, if_true]
  rw [la_law_1580_eq]
  exact next s2 hs2 q1 q2
theorem lc_1395 {s : mSt} (hc : CS2 J LL_safe mo_safe) (hs : J s) (h5 : s 265 = xs) (h6 : s 266 = ys) (hb : inbs x3 (ys 0).toNatClampNeg) (next : ∀ s2, J s2 → s2 265 = xs → s2 266 = ys → E1 (la_law_18 s2 (x3 + 7))) : E1 (la_law_1395 s x3) := by
  obtain ⟨⟨b1, b2, b3⟩, b4, b5, b6⟩ := hb
  obtain ⟨v, s1, s2, e1, e2, hs2⟩ := hc s (xs ((x3 + 1)).toNatClampNeg) (xs ((x3 + 2)).toNatClampNeg) hs
  obtain ⟨p1, p2⟩ := EV_keep e1
  obtain ⟨q1, q2⟩ := EV_keep e2
  rw [h5] at p1
  rw [h6] at p2
  rw [p1] at q1
  rw [p2] at q2
  rw [la_law_1395_eq]
  simp only [h5, h6, b1, b2, b3, b4, b5, b6, gd_t, e1, bI_rI, p1, p2, e2, if_true]
  rw [la_law_1580_eq]
  exact next s2 hs2 q1 q2
theorem lc_1428 {s : mSt} (hc : CS3 J LL_sheet mo_sheet) (hs : J s) (h5 : s 265 = xs) (h6 : s 266 = ys) (hb : inbs x3 (ys 0).toNatClampNeg) (next : ∀ s2, J s2 → s2 265 = xs → s2 266 = ys → E1 (la_law_18 s2 (x3 + 7))) : E1 (la_law_1428 s x3) := by
  obtain ⟨⟨b1, b2, b3⟩, b4, b5, b6⟩ := hb
  obtain ⟨v, s1, s2, e1, e2, hs2⟩ := hc s (xs ((x3 + 1)).toNatClampNeg) (xs ((x3 + 2)).toNatClampNeg) (xs ((x3 + 3)).toNatClampNeg) hs
  obtain ⟨p1, p2⟩ := EV_keep e1
  obtain ⟨q1, q2⟩ := EV_keep e2
  rw [h5] at p1
  rw [h6] at p2
  rw [p1] at q1
  rw [p2] at q2
  rw [la_law_1428_eq]
  simp only [h5, h6, b1, b2, b3, b4, b5, b6, gd_t, e1, bI_rI, p1, p2, e2, if_true]
  rw [la_law_1580_eq]
  exact next s2 hs2 q1 q2
theorem lc_1471 {s : mSt} (hc : CS3 J LL_lay mo_lay) (hs : J s) (h5 : s 265 = xs) (h6 : s 266 = ys) (hb : inbs x3 (ys 0).toNatClampNeg) (next : ∀ s2, J s2 → s2 265 = xs → s2 266 = ys → E1 (la_law_18 s2 (x3 + 7))) : E1 (la_law_1471 s x3) := by
  obtain ⟨⟨b1, b2, b3⟩, b4, b5, b6⟩ := hb
  obtain ⟨v, s1, s2, e1, e2, hs2⟩ := hc s (xs ((x3 + 1)).toNatClampNeg) (xs ((x3 + 2)).toNatClampNeg) (xs ((x3 + 3)).toNatClampNeg) hs
  obtain ⟨p1, p2⟩ := EV_keep e1
  obtain ⟨q1, q2⟩ := EV_keep e2
  rw [h5] at p1
  rw [h6] at p2
  rw [p1] at q1
  rw [p2] at q2
  rw [la_law_1471_eq]
  simp only [h5, h6, b1, b2, b3, b4, b5, b6, gd_t, e1, bI_rI, p1, p2, e2, if_true]
  rw [la_law_1580_eq]
  exact next s2 hs2 q1 q2
theorem lc_1514 {s : mSt} (hc : CS3 J LL_read mo_read) (hs : J s) (h5 : s 265 = xs) (h6 : s 266 = ys) (hb : inbs x3 (ys 0).toNatClampNeg) (next : ∀ s2, J s2 → s2 265 = xs → s2 266 = ys → E1 (la_law_18 s2 (x3 + 7))) : E1 (la_law_1514 s x3) := by
  obtain ⟨⟨b1, b2, b3⟩, b4, b5, b6⟩ := hb
  obtain ⟨v, s1, s2, e1, e2, hs2⟩ := hc s (xs ((x3 + 1)).toNatClampNeg) (xs ((x3 + 2)).toNatClampNeg) (xs ((x3 + 3)).toNatClampNeg) hs
  obtain ⟨p1, p2⟩ := EV_keep e1
  obtain ⟨q1, q2⟩ := EV_keep e2
  rw [h5] at p1
  rw [h6] at p2
  rw [p1] at q1
  rw [p2] at q2
  rw [la_law_1514_eq]
  simp only [h5, h6, b1, b2, b3, b4, b5, b6, gd_t, e1, bI_rI, p1, p2, e2, if_true]
  rw [la_law_1580_eq]
  exact next s2 hs2 q1 q2
theorem lc_1557 {s : mSt} (hc : CS1 J LL_count mo_count) (hs : J s) (h5 : s 265 = xs) (h6 : s 266 = ys) (hb : inbs x3 (ys 0).toNatClampNeg) (next : ∀ s2, J s2 → s2 265 = xs → s2 266 = ys → E1 (la_law_18 s2 (x3 + 7))) : E1 (la_law_1557 s x3) := by
  obtain ⟨⟨b1, b2, b3⟩, b4, b5, b6⟩ := hb
  obtain ⟨v, s1, s2, e1, e2, hs2⟩ := hc s (xs ((x3 + 1)).toNatClampNeg) hs
  obtain ⟨p1, p2⟩ := EV_keep e1
  obtain ⟨q1, q2⟩ := EV_keep e2
  rw [h5] at p1
  rw [h6] at p2
  rw [p1] at q1
  rw [p2] at q2
  rw [la_law_1557_eq]
  simp only [h5, h6, b1, b2, b3, b4, b5, b6, gd_t, e1, bI_rI, p1, p2, e2, if_true]
  rw [la_law_1580_eq]
  exact next s2 hs2 q1 q2
theorem i32_sub {a b : Int32} (h1 : -2147483648 ≤ a.toInt - b.toInt) (h2 : a.toInt - b.toInt < 2147483648) : (a - b).toInt = a.toInt - b.toInt := by
  rw [Int32.toInt_sub, Int.bmod_def]
  split <;> omega
theorem i32_add {a b : Int32} (h1 : -2147483648 ≤ a.toInt + b.toInt) (h2 : a.toInt + b.toInt < 2147483648) : (a + b).toInt = a.toInt + b.toInt := by
  rw [Int32.toInt_add, Int.bmod_def]
  split <;> omega
theorem inb_of {x : Int32} {n : Nat} (h1 : 0 ≤ x.toInt) (h2 : x.toInt < n) : inb x n = true := by
  unfold inb
  have e : (0 : Int32).toInt = 0 := rfl
  have g1 : ¬ x < 0 := by rw [Int32.lt_iff_toInt_lt, e]; omega
  have g2 : x.toNatClampNeg < n := by show x.toInt.toNat < n; omega
  simp [g1, g2]
theorem inbs_of {x : Int32} {n : Nat} (h1 : 0 ≤ x.toInt) (h2 : x.toInt + 7 ≤ n) (hn : n ≤ 3584) : inbs x n := by
  have k : ∀ j : Int32, 0 ≤ j.toInt → j.toInt ≤ 6 → inb (x + j) n = true := fun j g1 g2 => by
    have e := i32_add (a := x) (b := j) (by omega) (by omega)
    exact inb_of (by omega) (by omega)
  exact ⟨⟨k 1 (by decide) (by decide), k 2 (by decide) (by decide), k 3 (by decide) (by decide)⟩, k 4 (by decide) (by decide), k 5 (by decide) (by decide), k 6 (by decide) (by decide)⟩
theorem law_loop {L : Nat} (hL : L ≤ 3584) (hy : ys = fun _ => Int32.ofNat L) (c0 : CS2 J LL_land mo_land) (c1 : CS6 J LL_line mo_line) (c2 : CS2 J LL_lineOf mo_lineOf) (c3 : CS1 J LL_light mo_light) (c4 : CS1 J LL_until mo_until) (c5 : CS3 J LL_change mo_change) (c6 : CS1 J LL_year mo_year) (c7 : CS1 J LL_hour mo_hour) (c8 : CS1 J LL_feed mo_feed) (c9 : CS1 J LL_end mo_end) (c10 : CS0 J LL_rules mo_rules) (c11 : CS0 J LL_fault mo_fault) (c12 : CS1 J LL_rule mo_rule) (c13 : CS2 J LL_rent mo_rent) (c14 : CS3 J LL_demand mo_demand) (c15 : CS2 J LL_much mo_much) (c16 : CS1 J LL_led mo_led) (c17 : CS2 J LL_way mo_way) (c18 : CS3 J LL_parts mo_parts) (c19 : CS2 J LL_worst mo_worst) (c20 : CS3 J LL_swing mo_swing) (c21 : CS1 J LL_swings mo_swings) (c22 : CS2 J LL_cut mo_cut) (c23 : CS4 J LL_echo mo_echo) (c24 : CS2 J LL_breakOf mo_breakOf) (c25 : CS4 J LL_quake mo_quake) (c26 : CS3 J LL_shared mo_shared) (c27 : CS3 J LL_ship mo_ship) (c28 : CS2 J LL_shipOf mo_shipOf) (c29 : CS2 J LL_send mo_send) (c30 : CS1 J LL_order mo_order) (c31 : CS1 J LL_plain mo_plain) (c32 : CS2 J LL_owed mo_owed) (c33 : CS2 J LL_paid mo_paid) (c34 : CS3 J LL_plan mo_plan) (c35 : CS2 J LL_safe mo_safe) (c36 : CS3 J LL_sheet mo_sheet) (c37 : CS3 J LL_lay mo_lay) (c38 : CS3 J LL_read mo_read) (c39 : CS1 J LL_count mo_count) : ∀ (n : Nat) (s : mSt) (x3 : Int32), J s → s 265 = xs → s 266 = ys → 0 ≤ x3.toInt → x3.toInt ≤ 3584 → L < x3.toInt + n → E1 (la_law_18 s x3) := by
  have hl1 : (ys 0).toInt = L := by rw [hy]; exact Int32.toInt_ofNat_of_lt (by omega)
  have hl2 : (ys 0).toNatClampNeg = L := by show (ys 0).toInt.toNat = L; omega
  have e7 : (7 : Int32).toInt = 7 := rfl
  have hl3 : (Int32.ofNat L - 7).toInt = L - 7 := by
    have : (Int32.ofNat L).toInt = L := Int32.toInt_ofNat_of_lt (by omega)
    rw [i32_sub (by omega) (by omega), this, e7]
  intro n
  induction n with
  | zero =>
    intro s x3 hs h5 h6 g1 g2 g3
    rw [la_law_18_eq]
    simp only [h6, hl2]
    rw [if_pos (by rw [Int32.lt_iff_toInt_lt, hl3]; omega)]
    exact ⟨s, rfl⟩
  | succ n ih =>
    intro s x3 hs h5 h6 g1 g2 g3
    rw [la_law_18_eq]
    simp only [h5, h6, hl2]
    refine E1_ite (fun _ => ⟨s, rfl⟩) (fun hlt => ?_)
    have hle : x3.toInt + 7 ≤ L := by
      rw [Int32.lt_iff_toInt_lt, hl3] at hlt
      omega
    rw [inb_of g1 (by omega), gd_t]
    have hb : inbs x3 (ys 0).toNatClampNeg := by rw [hl2]; exact inbs_of g1 hle hL
    have e3 : (x3 + 7).toInt = x3.toInt + 7 := by rw [i32_add (by omega) (by omega), e7]
    have next : ∀ s2, J s2 → s2 265 = xs → s2 266 = ys → E1 (la_law_18 s2 (x3 + 7)) := fun s2 j1 j2 j3 => ih s2 (x3 + 7) j1 j2 j3 (by omega) (by omega) (by omega)
    exact E1_ite (fun _ => lc_208 c0 hs h5 h6 hb next) (fun _ => E1_ite (fun _ => lc_241 c1 hs h5 h6 hb next) (fun _ => E1_ite (fun _ => lc_316 c2 hs h5 h6 hb next) (fun _ => E1_ite (fun _ => lc_349 c3 hs h5 h6 hb next) (fun _ => E1_ite (fun _ => lc_372 c4 hs h5 h6 hb next) (fun _ => E1_ite (fun _ => lc_395 c5 hs h5 h6 hb next) (fun _ => E1_ite (fun _ => lc_438 c6 hs h5 h6 hb next) (fun _ => E1_ite (fun _ => lc_461 c7 hs h5 h6 hb next) (fun _ => E1_ite (fun _ => lc_484 c8 hs h5 h6 hb next) (fun _ => E1_ite (fun _ => lc_537 c9 hs h5 h6 hb next) (fun _ => E1_ite (fun _ => lc_560 c10 hs h5 h6 hb next) (fun _ => E1_ite (fun _ => lc_573 c11 hs h5 h6 hb next) (fun _ => E1_ite (fun _ => lc_586 c12 hs h5 h6 hb next) (fun _ => E1_ite (fun _ => lc_609 c13 hs h5 h6 hb next) (fun _ => E1_ite (fun _ => lc_642 c14 hs h5 h6 hb next) (fun _ => E1_ite (fun _ => lc_685 c15 hs h5 h6 hb next) (fun _ => E1_ite (fun _ => lc_718 c16 hs h5 h6 hb next) (fun _ => E1_ite (fun _ => lc_741 c17 hs h5 h6 hb next) (fun _ => E1_ite (fun _ => lc_774 c18 hs h5 h6 hb next) (fun _ => E1_ite (fun _ => lc_817 c19 hs h5 h6 hb next) (fun _ => E1_ite (fun _ => lc_850 c20 hs h5 h6 hb next) (fun _ => E1_ite (fun _ => lc_893 c21 hs h5 h6 hb next) (fun _ => E1_ite (fun _ => lc_916 c22 hs h5 h6 hb next) (fun _ => E1_ite (fun _ => lc_949 c23 hs h5 h6 hb next) (fun _ => E1_ite (fun _ => lc_1002 c24 hs h5 h6 hb next) (fun _ => E1_ite (fun _ => lc_1035 c25 hs h5 h6 hb next) (fun _ => E1_ite (fun _ => lc_1088 c26 hs h5 h6 hb next) (fun _ => E1_ite (fun _ => lc_1131 c27 hs h5 h6 hb next) (fun _ => E1_ite (fun _ => lc_1174 c28 hs h5 h6 hb next) (fun _ => E1_ite (fun _ => lc_1207 c29 hs h5 h6 hb next) (fun _ => E1_ite (fun _ => lc_1240 c30 hs h5 h6 hb next) (fun _ => E1_ite (fun _ => lc_1263 c31 hs h5 h6 hb next) (fun _ => E1_ite (fun _ => lc_1286 c32 hs h5 h6 hb next) (fun _ => E1_ite (fun _ => lc_1319 c33 hs h5 h6 hb next) (fun _ => E1_ite (fun _ => lc_1352 c34 hs h5 h6 hb next) (fun _ => E1_ite (fun _ => lc_1395 c35 hs h5 h6 hb next) (fun _ => E1_ite (fun _ => lc_1428 c36 hs h5 h6 hb next) (fun _ => E1_ite (fun _ => lc_1471 c37 hs h5 h6 hb next) (fun _ => E1_ite (fun _ => lc_1514 c38 hs h5 h6 hb next) (fun _ => E1_ite (fun _ => lc_1557 c39 hs h5 h6 hb next) (fun _ => by rw [la_law_1580_eq]; exact next s hs h5 h6))))))))))))))))))))))))))))))))))))))))
end LOOP
theorem whole_of {J : mSt → Prop} (J0 : ∀ xs L, J (s_0 xs L)) (c0 : CS2 J LL_land mo_land) (c1 : CS6 J LL_line mo_line) (c2 : CS2 J LL_lineOf mo_lineOf) (c3 : CS1 J LL_light mo_light) (c4 : CS1 J LL_until mo_until) (c5 : CS3 J LL_change mo_change) (c6 : CS1 J LL_year mo_year) (c7 : CS1 J LL_hour mo_hour) (c8 : CS1 J LL_feed mo_feed) (c9 : CS1 J LL_end mo_end) (c10 : CS0 J LL_rules mo_rules) (c11 : CS0 J LL_fault mo_fault) (c12 : CS1 J LL_rule mo_rule) (c13 : CS2 J LL_rent mo_rent) (c14 : CS3 J LL_demand mo_demand) (c15 : CS2 J LL_much mo_much) (c16 : CS1 J LL_led mo_led) (c17 : CS2 J LL_way mo_way) (c18 : CS3 J LL_parts mo_parts) (c19 : CS2 J LL_worst mo_worst) (c20 : CS3 J LL_swing mo_swing) (c21 : CS1 J LL_swings mo_swings) (c22 : CS2 J LL_cut mo_cut) (c23 : CS4 J LL_echo mo_echo) (c24 : CS2 J LL_breakOf mo_breakOf) (c25 : CS4 J LL_quake mo_quake) (c26 : CS3 J LL_shared mo_shared) (c27 : CS3 J LL_ship mo_ship) (c28 : CS2 J LL_shipOf mo_shipOf) (c29 : CS2 J LL_send mo_send) (c30 : CS1 J LL_order mo_order) (c31 : CS1 J LL_plain mo_plain) (c32 : CS2 J LL_owed mo_owed) (c33 : CS2 J LL_paid mo_paid) (c34 : CS3 J LL_plan mo_plan) (c35 : CS2 J LL_safe mo_safe) (c36 : CS3 J LL_sheet mo_sheet) (c37 : CS3 J LL_lay mo_lay) (c38 : CS3 J LL_read mo_read) (c39 : CS1 J LL_count mo_count) (xs : Nat → Int32) (L : Nat) (hL : L ≤ 3584) : ∃ s', la_law_18 (s_0 xs L) 0 = some (some (pI 1), s') := law_loop (J := J) (xs := xs) hL rfl c0 c1 c2 c3 c4 c5 c6 c7 c8 c9 c10 c11 c12 c13 c14 c15 c16 c17 c18 c19 c20 c21 c22 c23 c24 c25 c26 c27 c28 c29 c30 c31 c32 c33 c34 c35 c36 c37 c38 c39 (L + 1) (s_0 xs L) 0 (J0 xs L) rfl rfl (by decide) (by decide) (by show (L : Int) < 0 + ((L + 1 : Nat) : Int); omega)
