/-- the classes at the law's entry -/
theorem start_K {args : Array Value} {s : State} (hts : ∀ w ∈ wF, w.before args s = true) (hov : aOv s) : ∃ (D : va_G) (cI cZ cG : ClassId), va_K D vwCl (tyL cI cZ cG) s := by
  have h0 : ∀ ci : Nat, ∃ q : ClassId × (Nat → Nat), ∀ r, vwCl[ci]? = some r → u_Kn s r.1 r.2.1 r.2.2 q.1 q.2 := by
    intro ci
    cases hc : vwCl[ci]? with
    | none => exact ⟨(0, fun _ => 0), fun r h => by cases h⟩
    | some r =>
      obtain ⟨C, T, N⟩ := r
      have hci : ci < 12 := (List.getElem?_eq_some_iff.mp hc).1
      obtain ⟨eN, eC, -, -, hul⟩ := clA_ok ci hci C T N hc
      subst eN; subst eC
      obtain ⟨cC, iS, h1⟩ := u_known (n := (aD ci).length) hts hul (hts _ (inA_ok ci hci))
      exact ⟨(cC, iS), fun r h => by cases h; exact h1⟩
  obtain ⟨f, hf⟩ := Classical.axiomOfChoice h0
  obtain ⟨cI, kI, pI', i1, i2, i3⟩ := Cond.arrayClass_spec (hts _ acI)
  obtain ⟨cZ, kZ, pZ, z1, z2, z3⟩ := Cond.arrayClass_spec (hts _ acZ)
  obtain ⟨comp, cG, kG, g1, g2, g3, g4, g5⟩ := Jvm.Stand.arrayOver_specB hov
  refine ⟨(fun k => (f k).1, fun k => (f k).2), cI, cZ, cG, fun k q hq => hf k q hq, fun k q hq => ?_⟩
  match k, hq with
  | 0, hq => cases hq; exact ⟨fun n z => ⟨fun k h => (by cases h), kI, i2, pI', i3⟩, i1⟩
  | 1, hq => cases hq; exact ⟨fun n z => ⟨fun k h => (by cases h), kZ, z2, pZ, z3⟩, z1⟩
  | 2, hq => cases hq; exact ⟨fun n z => ⟨fun k h => (by cases h), kG, g3, comp, g4⟩, g5⟩
  | k + 3, hq => simp [tyL] at hq
theorem ins_0 : ins 248 0 = some (.new 7, 3) := rfl
theorem ins_3 : ins 248 3 = some (.dup, 1) := rfl
theorem ins_4 : ins 248 4 = some (.invokespecial 9, 3) := rfl
theorem ins_7 : ins 248 7 = some (.astore_n 1, 1) := rfl
theorem ins_8 : ins 248 8 = some (.new 10, 3) := rfl
theorem ins_11 : ins 248 11 = some (.dup, 1) := rfl
theorem ins_12 : ins 248 12 = some (.invokespecial 12, 3) := rfl
theorem ins_15 : ins 248 15 = some (.astore_n 2, 1) := rfl
theorem ins_16 : ins 248 16 = some (.iconst 0, 1) := rfl
theorem ins_17 : ins 248 17 = some (.istore_n 3, 1) := rfl
theorem mBy_law : mBy 248 = code := rfl
set_option maxHeartbeats 4000000 in
set_option maxRecDepth 100000 in
/-- THE LAW, from its entry, by what the machine of memories comes to -/
theorem law_start {p : Program} {e : Env} {s : State} {m : MethodId} {below : List Frame} {meth : Method} {c : Code} (l : Launch) {b L : Nat} {xs : Nat → Int32} (hLb : L ≤ 3584) (C0 : lw_At p s m meth c b L xs) (hmath : ∃ s', la_law_18 (s_0 xs L) 0 = some (some (pI 1), s')) : W p l e room_1 s m #[Value.ref b] below meth c s.heap [] 0 0 (lw_Z below #[Value.ref b] s) (entryFrame m ([Value.ref b] : List Value).toArray 4) := by
  obtain ⟨hx, hb, hr, hml, hown, hts, hX, hbl, hlocks, hgv⟩ := id C0
  have htw : ∀ w ∈ wF, w.before #[Value.ref b] s = true := fun w hw => hts w (wF_tbl hw)
  obtain ⟨kv, hC, hkb⟩ := start_C hts hgv hX hbl
  obtain ⟨D, cI, cZ, cG, hK⟩ := start_K htw hC.2.1
  obtain ⟨h1, e1, hlen1, e2⟩ := aRun_parts
  have hb : c.code = mBy 248 := hb
  have hown : s.vm.findClass (cN 18) = some m.cls := hown
  have hP0 : va_P D vwCl (w1 s.heap.size cI cZ cG []) s.heap := fun k q h => by simp [w1] at h
  rw [lg_entry_eq]
  have hl := LR_entry (base := s.heap.size) (kv := kv) [pA 265] (n := 4) (by decide)
  rw [show ([pA 265].map (cv s.heap.size kv)) = [Value.ref b] from by
    show [cv s.heap.size kv (pA 265)] = _
    rw [cv_hi (by decide), hkb]; rfl] at hl
  generalize (lg_sl ([Value.ref b]) ++ List.replicate (4 - (lg_sl ([Value.ref b])).length) Slot.unset).toArray = ls at hl ⊢
  refine law_new (D := D) (base := s.heap.size) (cI := cI) (cZ := cZ) (cG := cG) (n0 := 0) (ci := 10) (h := []) hx hb hown htw hK rfl rfl hP0 va_S.rf rfl (by decide) (by decide) (mdec ins_0) (fun H1 hP1 hS1 => ?_)
  refine lv_dup hx hb (mdec ins_3) rfl ?_
  refine law_init (D := D) (kv := kv) (xs := xs) (nS := L) (base := s.heap.size) (cI := cI) (cZ := cZ) (cG := cG) (n0 := 0) (ν := 10) (a := 0) (h := [.inl (10, aD 10)]) (h2 := h1) hx hb hml hl.1 hown htw hK hC rfl rfl hP1 hS1 rfl rfl rfl rfl (by decide) (by decide) (by decide) (by decide) (by decide) e1 (by decide) (by decide) (by decide) (Nat.le_of_ble_eq_true rfl) (mdec ins_4) (fun H2 locs2 hP2 hS2 => ?_)
  refine lv_astore_n hx hb (mdec ins_7) rfl (LR_has hl) (by decide) rfl (fun ls2 hl2' => ?_)
  have hl2 := LR_set1 (v := pA 0) hl.2.1 (i := 1) (by decide) (by rw [show cv s.heap.size kv (pA 0) = .ref (s.heap.size + 0) from cv_lo (by decide)]; exact hl2')
  clear hl hl2'
  refine law_new (D := D) (base := s.heap.size) (cI := cI) (cZ := cZ) (cG := cG) (n0 := 0) (ci := 11) (h := h1) hx hb hown htw hK rfl (by rw [hlen1]; decide) hP2 hS2 rfl (by decide) (by decide) (mdec ins_8) (fun H3 hP3 hS3 => ?_)
  rw [hlen1]
  refine lv_dup hx hb (mdec ins_11) rfl ?_
  refine law_init (D := D) (kv := kv) (xs := xs) (nS := L) (base := s.heap.size) (cI := cI) (cZ := cZ) (cG := cG) (n0 := 0) (ν := 11) (a := 183) (h := h1 ++ [.inl (11, aD 11)]) (h2 := hL) hx hb hml hl2.1 hown htw hK hC rfl (by rw [List.length_append, hlen1]; decide) hP3 hS3 rfl rfl rfl rfl (by decide) (by decide) (by simp) (by rw [List.length_append, hlen1]; decide) (by decide) (by rw [List.length_append, hlen1]; exact e2) (by decide) (by decide) (by decide) (Nat.le_of_ble_eq_true rfl) (mdec ins_12) (fun H4 locs4 hP4 hS4 => ?_)
  refine lv_astore_n hx hb (mdec ins_15) rfl (LR_has hl2) (by decide) rfl (fun ls3 hl3' => ?_)
  have hl3 := LR_set1 (v := pA 183) hl2.2.1 (i := 2) (by decide) (by rw [show cv s.heap.size kv (pA 183) = .ref (s.heap.size + 183) from cv_lo (by decide)]; exact hl3')
  clear hl2 hl3'
  refine lv_iconst hx hb (mdec ins_16) rfl ?_
  refine lv_istore_n hx hb (mdec ins_17) rfl (LR_has hl3) (by decide) rfl (fun ls4 hl4' => ?_)
  have hl4 := LR_set1 (v := pI 0) hl3.2.1 (i := 3) (by decide) hl4'
  clear hl3 hl4'
  rw [w1_wl (xs := xs) (L := L)] at hP4
  obtain ⟨s', hm⟩ := hmath
  have hL2 : (s_0 xs L idLen 0).toNatClampNeg = L := by
    show (Int32.ofNat L).toNatClampNeg = L
    show (Int32.ofNat L).toInt.toNat = L
    rw [Int32.toInt_ofNat_of_lt (by omega)]
    rfl
  refine EV_sim l (D := D) (base := s.heap.size) (kv := kv) (cI := cI) (cZ := cZ) (cG := cG) (xs := xs) (nS := L) (μ := 248) (pc := 18) (st := []) (s := s_0 xs L) (r := some (pI 1)) (s' := s') hm ⟨hx, hb, hml, by decide, hown, htw, hK, hC.1, by decide, by decide, by decide, by decide⟩ (fun pc ls H locs hP hS => ⟨fun v ev hd _ => ?_, fun a n ev _ _ => (by cases ev), fun ev _ _ => (by cases ev)⟩) ls4 H4 locs4 hl4 hP4 hS4 ⟨rfl, hL2⟩
  cases ev
  refine va_forget (fun q hq => hS.2.2 q hq) ?_
  refine W.widen (k := 600000) (n := 7302250) (by decide) (by decide) ?_
  exact lw_ret hx hb hr hlocks hd
