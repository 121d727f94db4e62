theorem wv1 (i : Nat) {w : Cond} (h : tables_1_1[i]? = some w) : w ∈ lw_tbl := List.mem_append_right _ (List.mem_append_left _ (List.mem_of_getElem? h))
theorem wv2 (i : Nat) {w : Cond} (h : tables_1_2[i]? = some w) : w ∈ lw_tbl := List.mem_append_right _ (List.mem_append_right _ (List.mem_append_left _ (List.mem_of_getElem? h)))
theorem wv3 (i : Nat) {w : Cond} (h : tables_1_3[i]? = some w) : w ∈ lw_tbl := List.mem_append_right _ (List.mem_append_right _ (List.mem_append_right _ (List.mem_append_left _ (List.mem_of_getElem? h))))
theorem wv4 (i : Nat) {w : Cond} (h : tables_1_4[i]? = some w) : w ∈ lw_tbl := List.mem_append_right _ (List.mem_append_right _ (List.mem_append_right _ (List.mem_append_right _ (List.mem_append_left _ (List.mem_of_getElem? h)))))
theorem wv5 (i : Nat) {w : Cond} (h : tables_1_5[i]? = some w) : w ∈ lw_tbl := List.mem_append_right _ (List.mem_append_right _ (List.mem_append_right _ (List.mem_append_right _ (List.mem_append_right _ (List.mem_append_left _ (List.mem_of_getElem? h))))))
theorem wv6 (i : Nat) {w : Cond} (h : tables_1_6[i]? = some w) : w ∈ lw_tbl := List.mem_append_right _ (List.mem_append_right _ (List.mem_append_right _ (List.mem_append_right _ (List.mem_append_right _ (List.mem_append_right _ (List.mem_append_left _ (List.mem_of_getElem? h)))))))
theorem wv7 (i : Nat) {w : Cond} (h : tables_1_7[i]? = some w) : w ∈ lw_tbl := List.mem_append_right _ (List.mem_append_right _ (List.mem_append_right _ (List.mem_append_right _ (List.mem_append_right _ (List.mem_append_right _ (List.mem_append_right _ (List.mem_append_left _ (List.mem_of_getElem? h))))))))
theorem wv8 (i : Nat) {w : Cond} (h : tables_1_8[i]? = some w) : w ∈ lw_tbl := List.mem_append_right _ (List.mem_append_right _ (List.mem_append_right _ (List.mem_append_right _ (List.mem_append_right _ (List.mem_append_right _ (List.mem_append_right _ (List.mem_append_right _ (List.mem_of_getElem? h))))))))
section PREM
variable {args : Array Value} {s : State}
set_option maxRecDepth 100000 in
theorem pz_AT_FIRST (hts : ∀ w ∈ lw_tbl, w.before args s = true) (hs : ∀ w ∈ flatC (Jvm.Cond.and given_1 narrow_1), w.before args s = true) : ∃ t : Nat, va_Z RX5 "AT_FIRST" "[I" (.ref t) (Ab s.heap.size) s s.heap ∧ va_T .int t 8 (fun j => .int (([100, 20, 1, 2, 1, 5, 4, 2] : List Int32).getD j 0)) (Ab s.heap.size) s s.heap := by
  have hA : ∀ a : Nat, a < s.heap.size → ¬ Ab s.heap.size a := fun a h => Nat.not_le.mpr h
  obtain ⟨t, h1, h2⟩ := va_Tof (tm := (Term.static "LandLines$Rules" "AT_FIRST" "[I")) (ty := .int) (N := 8) (f := fun j => .int (([100, 20, 1, 2, 1, 5, 4, 2] : List Int32).getD j 0)) (A := Ab s.heap.size) (by decide) (hs _ (List.mem_of_getElem? (i := 5) rfl)) (va_eqt (hs _ (List.mem_of_getElem? (i := 6) rfl))) (fun j hj => by
    match j, hj with
    | 0, _ => exact va_eqt (hs _ (List.mem_of_getElem? (i := 7) rfl))
    | 1, _ => exact va_eqt (hs _ (List.mem_of_getElem? (i := 8) rfl))
    | 2, _ => exact va_eqt (hs _ (List.mem_of_getElem? (i := 9) rfl))
    | 3, _ => exact va_eqt (hs _ (List.mem_of_getElem? (i := 10) rfl))
    | 4, _ => exact va_eqt (hs _ (List.mem_of_getElem? (i := 11) rfl))
    | 5, _ => exact va_eqt (hs _ (List.mem_of_getElem? (i := 12) rfl))
    | 6, _ => exact va_eqt (hs _ (List.mem_of_getElem? (i := 13) rfl))
    | 7, _ => exact va_eqt (hs _ (List.mem_of_getElem? (i := 14) rfl))
    | n + 8, h => exact absurd h (by omega)) hA
  exact ⟨t, va_Zof (hts _ (wv1 42 rfl)) (hts _ (wv1 2 rfl)) h1 hA, h2⟩
set_option maxRecDepth 100000 in
theorem pz_LOWEST (hts : ∀ w ∈ lw_tbl, w.before args s = true) (hs : ∀ w ∈ flatC (Jvm.Cond.and given_1 narrow_1), w.before args s = true) : ∃ t : Nat, va_Z RX4 "LOWEST" "[I" (.ref t) (Ab s.heap.size) s s.heap ∧ va_T .int t 8 (fun j => .int (([0, 0, 0, 0, 0, 1, 1, 1] : List Int32).getD j 0)) (Ab s.heap.size) s s.heap := by
  have hA : ∀ a : Nat, a < s.heap.size → ¬ Ab s.heap.size a := fun a h => Nat.not_le.mpr h
  obtain ⟨t, h1, h2⟩ := va_Tof (tm := (Term.static "LandLines$Reader" "LOWEST" "[I")) (ty := .int) (N := 8) (f := fun j => .int (([0, 0, 0, 0, 0, 1, 1, 1] : List Int32).getD j 0)) (A := Ab s.heap.size) (by decide) (hs _ (List.mem_of_getElem? (i := 21) rfl)) (va_eqt (hs _ (List.mem_of_getElem? (i := 22) rfl))) (fun j hj => by
    match j, hj with
    | 0, _ => exact va_eqt (hs _ (List.mem_of_getElem? (i := 23) rfl))
    | 1, _ => exact va_eqt (hs _ (List.mem_of_getElem? (i := 24) rfl))
    | 2, _ => exact va_eqt (hs _ (List.mem_of_getElem? (i := 25) rfl))
    | 3, _ => exact va_eqt (hs _ (List.mem_of_getElem? (i := 26) rfl))
    | 4, _ => exact va_eqt (hs _ (List.mem_of_getElem? (i := 27) rfl))
    | 5, _ => exact va_eqt (hs _ (List.mem_of_getElem? (i := 28) rfl))
    | 6, _ => exact va_eqt (hs _ (List.mem_of_getElem? (i := 29) rfl))
    | 7, _ => exact va_eqt (hs _ (List.mem_of_getElem? (i := 30) rfl))
    | n + 8, h => exact absurd h (by omega)) hA
  exact ⟨t, va_Zof (hts _ (wv4 67 rfl)) (hts _ (wv1 4 rfl)) h1 hA, h2⟩
set_option maxRecDepth 100000 in
theorem pz_HIGHEST (hts : ∀ w ∈ lw_tbl, w.before args s = true) (hs : ∀ w ∈ flatC (Jvm.Cond.and given_1 narrow_1), w.before args s = true) : ∃ t : Nat, va_Z RX4 "HIGHEST" "[I" (.ref t) (Ab s.heap.size) s s.heap ∧ va_T .int t 8 (fun j => .int (([999, 999, 20, 20, 20, 50, 20, 20] : List Int32).getD j 0)) (Ab s.heap.size) s s.heap := by
  have hA : ∀ a : Nat, a < s.heap.size → ¬ Ab s.heap.size a := fun a h => Nat.not_le.mpr h
  obtain ⟨t, h1, h2⟩ := va_Tof (tm := (Term.static "LandLines$Reader" "HIGHEST" "[I")) (ty := .int) (N := 8) (f := fun j => .int (([999, 999, 20, 20, 20, 50, 20, 20] : List Int32).getD j 0)) (A := Ab s.heap.size) (by decide) (hs _ (List.mem_of_getElem? (i := 32) rfl)) (va_eqt (hs _ (List.mem_of_getElem? (i := 33) rfl))) (fun j hj => by
    match j, hj with
    | 0, _ => exact va_eqt (hs _ (List.mem_of_getElem? (i := 34) rfl))
    | 1, _ => exact va_eqt (hs _ (List.mem_of_getElem? (i := 35) rfl))
    | 2, _ => exact va_eqt (hs _ (List.mem_of_getElem? (i := 36) rfl))
    | 3, _ => exact va_eqt (hs _ (List.mem_of_getElem? (i := 37) rfl))
    | 4, _ => exact va_eqt (hs _ (List.mem_of_getElem? (i := 38) rfl))
    | 5, _ => exact va_eqt (hs _ (List.mem_of_getElem? (i := 39) rfl))
    | 6, _ => exact va_eqt (hs _ (List.mem_of_getElem? (i := 40) rfl))
    | 7, _ => exact va_eqt (hs _ (List.mem_of_getElem? (i := 41) rfl))
    | n + 8, h => exact absurd h (by omega)) hA
  exact ⟨t, va_Zof (hts _ (wv4 69 rfl)) (hts _ (wv1 4 rfl)) h1 hA, h2⟩
set_option maxRecDepth 100000 in
theorem pz_comp (hts : ∀ w ∈ lw_tbl, w.before args s = true) (hs : ∀ w ∈ flatC (Jvm.Cond.and given_1 narrow_1), w.before args s = true) : va_Z RJ0 "COMPACT_STRINGS" "Z" (.int 1) (Ab s.heap.size) s s.heap := va_Zof (hts _ (wv3 229 rfl)) (hts _ (wv1 16 rfl)) (va_eqt (hs _ (List.mem_of_getElem? (i := 15) rfl))) (fun a h => Nat.not_le.mpr h)
set_option maxRecDepth 100000 in
theorem pz_form (hts : ∀ w ∈ lw_tbl, w.before args s = true) (hs : ∀ w ∈ flatC (Jvm.Cond.and given_1 narrow_1), w.before args s = true) : va_Zq RJ3 "SIOOBE_FORMATTER" "Ljava/util/function/BiFunction;" (Ab s.heap.size) s s.heap := va_Zqof (hts _ (wv4 5 rfl)) (hts _ (wv1 18 rfl)) (hs _ (List.mem_of_getElem? (i := 16) rfl)) (fun a h => Nat.not_le.mpr h)
def tmS (i : Nat) : Term := .string "LandLines$Reader" (cpS i)
set_option maxRecDepth 100000 in
theorem ps_1 (hs : ∀ w ∈ flatC (Jvm.Cond.and given_1 narrow_1), w.before args s = true) (i : Nat) (hi : i < 12) : (Cond.exactly (tmS i) "java/lang/String").before args s = true ∧ (Cond.eq (.field (tmS i) "java/lang/String" "coder" "B") (.int 0)).before args s = true ∧ (Cond.arrayOf (.field (tmS i) "java/lang/String" "value" "[B") .byte).before args s = true ∧ (Cond.eq (.length (.field (tmS i) "java/lang/String" "value" "[B")) (.int (Int32.ofNat (sLens.getD i 0)))).before args s = true := by
    match i, hi with
    | 0, _ => exact ⟨hs _ (List.mem_of_getElem? (i := 42) rfl), hs _ (List.mem_of_getElem? (i := 43) rfl), hs _ (List.mem_of_getElem? (i := 44) rfl), hs _ (List.mem_of_getElem? (i := 45) rfl)⟩
    | 1, _ => exact ⟨hs _ (List.mem_of_getElem? (i := 50) rfl), hs _ (List.mem_of_getElem? (i := 51) rfl), hs _ (List.mem_of_getElem? (i := 52) rfl), hs _ (List.mem_of_getElem? (i := 53) rfl)⟩
    | 2, _ => exact ⟨hs _ (List.mem_of_getElem? (i := 59) rfl), hs _ (List.mem_of_getElem? (i := 60) rfl), hs _ (List.mem_of_getElem? (i := 61) rfl), hs _ (List.mem_of_getElem? (i := 62) rfl)⟩
    | 3, _ => exact ⟨hs _ (List.mem_of_getElem? (i := 67) rfl), hs _ (List.mem_of_getElem? (i := 68) rfl), hs _ (List.mem_of_getElem? (i := 69) rfl), hs _ (List.mem_of_getElem? (i := 70) rfl)⟩
    | 4, _ => exact ⟨hs _ (List.mem_of_getElem? (i := 77) rfl), hs _ (List.mem_of_getElem? (i := 78) rfl), hs _ (List.mem_of_getElem? (i := 79) rfl), hs _ (List.mem_of_getElem? (i := 80) rfl)⟩
    | 5, _ => exact ⟨hs _ (List.mem_of_getElem? (i := 89) rfl), hs _ (List.mem_of_getElem? (i := 90) rfl), hs _ (List.mem_of_getElem? (i := 91) rfl), hs _ (List.mem_of_getElem? (i := 92) rfl)⟩
    | 6, _ => exact ⟨hs _ (List.mem_of_getElem? (i := 102) rfl), hs _ (List.mem_of_getElem? (i := 103) rfl), hs _ (List.mem_of_getElem? (i := 104) rfl), hs _ (List.mem_of_getElem? (i := 105) rfl)⟩
    | 7, _ => exact ⟨hs _ (List.mem_of_getElem? (i := 116) rfl), hs _ (List.mem_of_getElem? (i := 117) rfl), hs _ (List.mem_of_getElem? (i := 118) rfl), hs _ (List.mem_of_getElem? (i := 119) rfl)⟩
    | 8, _ => exact ⟨hs _ (List.mem_of_getElem? (i := 133) rfl), hs _ (List.mem_of_getElem? (i := 134) rfl), hs _ (List.mem_of_getElem? (i := 135) rfl), hs _ (List.mem_of_getElem? (i := 136) rfl)⟩
    | 9, _ => exact ⟨hs _ (List.mem_of_getElem? (i := 148) rfl), hs _ (List.mem_of_getElem? (i := 149) rfl), hs _ (List.mem_of_getElem? (i := 150) rfl), hs _ (List.mem_of_getElem? (i := 151) rfl)⟩
    | 10, _ => exact ⟨hs _ (List.mem_of_getElem? (i := 165) rfl), hs _ (List.mem_of_getElem? (i := 166) rfl), hs _ (List.mem_of_getElem? (i := 167) rfl), hs _ (List.mem_of_getElem? (i := 168) rfl)⟩
    | 11, _ => exact ⟨hs _ (List.mem_of_getElem? (i := 183) rfl), hs _ (List.mem_of_getElem? (i := 184) rfl), hs _ (List.mem_of_getElem? (i := 185) rfl), hs _ (List.mem_of_getElem? (i := 186) rfl)⟩
    | n + 12, h => exact absurd h (by omega)
set_option maxRecDepth 100000 in
theorem pe_0 (hs : ∀ w ∈ flatC (Jvm.Cond.and given_1 narrow_1), w.before args s = true) (j : Nat) (hj : j < 4) : (Cond.eq (.elem (.field (tmS 0) "java/lang/String" "value" "[B") (.int (Int32.ofNat j))) (.int ((sByts.getD 0 []).getD j 0))).before args s = true := by
  match j, hj with
  | 0, _ => exact hs _ (List.mem_of_getElem? (i := 46) rfl)
  | 1, _ => exact hs _ (List.mem_of_getElem? (i := 47) rfl)
  | 2, _ => exact hs _ (List.mem_of_getElem? (i := 48) rfl)
  | 3, _ => exact hs _ (List.mem_of_getElem? (i := 49) rfl)
  | n + 4, h => exact absurd h (by omega)
set_option maxRecDepth 100000 in
theorem pe_1 (hs : ∀ w ∈ flatC (Jvm.Cond.and given_1 narrow_1), w.before args s = true) (j : Nat) (hj : j < 4) : (Cond.eq (.elem (.field (tmS 1) "java/lang/String" "value" "[B") (.int (Int32.ofNat j))) (.int ((sByts.getD 1 []).getD j 0))).before args s = true := by
  match j, hj with
  | 0, _ => exact hs _ (List.mem_of_getElem? (i := 54) rfl)
  | 1, _ => exact hs _ (List.mem_of_getElem? (i := 55) rfl)
  | 2, _ => exact hs _ (List.mem_of_getElem? (i := 56) rfl)
  | 3, _ => exact hs _ (List.mem_of_getElem? (i := 57) rfl)
  | n + 4, h => exact absurd h (by omega)
set_option maxRecDepth 100000 in
theorem pe_2 (hs : ∀ w ∈ flatC (Jvm.Cond.and given_1 narrow_1), w.before args s = true) (j : Nat) (hj : j < 2) : (Cond.eq (.elem (.field (tmS 2) "java/lang/String" "value" "[B") (.int (Int32.ofNat j))) (.int ((sByts.getD 2 []).getD j 0))).before args s = true := by
  match j, hj with
  | 0, _ => exact hs _ (List.mem_of_getElem? (i := 63) rfl)
  | 1, _ => exact hs _ (List.mem_of_getElem? (i := 64) rfl)
  | n + 2, h => exact absurd h (by omega)
set_option maxRecDepth 100000 in
theorem pe_3 (hs : ∀ w ∈ flatC (Jvm.Cond.and given_1 narrow_1), w.before args s = true) (j : Nat) (hj : j < 3) : (Cond.eq (.elem (.field (tmS 3) "java/lang/String" "value" "[B") (.int (Int32.ofNat j))) (.int ((sByts.getD 3 []).getD j 0))).before args s = true := by
  match j, hj with
  | 0, _ => exact hs _ (List.mem_of_getElem? (i := 71) rfl)
  | 1, _ => exact hs _ (List.mem_of_getElem? (i := 72) rfl)
  | 2, _ => exact hs _ (List.mem_of_getElem? (i := 73) rfl)
  | n + 3, h => exact absurd h (by omega)
set_option maxRecDepth 100000 in
theorem pe_4 (hs : ∀ w ∈ flatC (Jvm.Cond.and given_1 narrow_1), w.before args s = true) (j : Nat) (hj : j < 4) : (Cond.eq (.elem (.field (tmS 4) "java/lang/String" "value" "[B") (.int (Int32.ofNat j))) (.int ((sByts.getD 4 []).getD j 0))).before args s = true := by
  match j, hj with
  | 0, _ => exact hs _ (List.mem_of_getElem? (i := 81) rfl)
  | 1, _ => exact hs _ (List.mem_of_getElem? (i := 82) rfl)
  | 2, _ => exact hs _ (List.mem_of_getElem? (i := 83) rfl)
  | 3, _ => exact hs _ (List.mem_of_getElem? (i := 84) rfl)
  | n + 4, h => exact absurd h (by omega)
set_option maxRecDepth 100000 in
theorem pe_5 (hs : ∀ w ∈ flatC (Jvm.Cond.and given_1 narrow_1), w.before args s = true) (j : Nat) (hj : j < 4) : (Cond.eq (.elem (.field (tmS 5) "java/lang/String" "value" "[B") (.int (Int32.ofNat j))) (.int ((sByts.getD 5 []).getD j 0))).before args s = true := by
  match j, hj with
  | 0, _ => exact hs _ (List.mem_of_getElem? (i := 93) rfl)
  | 1, _ => exact hs _ (List.mem_of_getElem? (i := 94) rfl)
  | 2, _ => exact hs _ (List.mem_of_getElem? (i := 95) rfl)
  | 3, _ => exact hs _ (List.mem_of_getElem? (i := 96) rfl)
  | n + 4, h => exact absurd h (by omega)
set_option maxRecDepth 100000 in
theorem pe_6 (hs : ∀ w ∈ flatC (Jvm.Cond.and given_1 narrow_1), w.before args s = true) (j : Nat) (hj : j < 4) : (Cond.eq (.elem (.field (tmS 6) "java/lang/String" "value" "[B") (.int (Int32.ofNat j))) (.int ((sByts.getD 6 []).getD j 0))).before args s = true := by
  match j, hj with
  | 0, _ => exact hs _ (List.mem_of_getElem? (i := 106) rfl)
  | 1, _ => exact hs _ (List.mem_of_getElem? (i := 107) rfl)
  | 2, _ => exact hs _ (List.mem_of_getElem? (i := 108) rfl)
  | 3, _ => exact hs _ (List.mem_of_getElem? (i := 109) rfl)
  | n + 4, h => exact absurd h (by omega)
set_option maxRecDepth 100000 in
theorem pe_7 (hs : ∀ w ∈ flatC (Jvm.Cond.and given_1 narrow_1), w.before args s = true) (j : Nat) (hj : j < 6) : (Cond.eq (.elem (.field (tmS 7) "java/lang/String" "value" "[B") (.int (Int32.ofNat j))) (.int ((sByts.getD 7 []).getD j 0))).before args s = true := by
  match j, hj with
  | 0, _ => exact hs _ (List.mem_of_getElem? (i := 120) rfl)
  | 1, _ => exact hs _ (List.mem_of_getElem? (i := 121) rfl)
  | 2, _ => exact hs _ (List.mem_of_getElem? (i := 122) rfl)
  | 3, _ => exact hs _ (List.mem_of_getElem? (i := 123) rfl)
  | 4, _ => exact hs _ (List.mem_of_getElem? (i := 124) rfl)
  | 5, _ => exact hs _ (List.mem_of_getElem? (i := 125) rfl)
  | n + 6, h => exact absurd h (by omega)
set_option maxRecDepth 100000 in
theorem pe_8 (hs : ∀ w ∈ flatC (Jvm.Cond.and given_1 narrow_1), w.before args s = true) (j : Nat) (hj : j < 3) : (Cond.eq (.elem (.field (tmS 8) "java/lang/String" "value" "[B") (.int (Int32.ofNat j))) (.int ((sByts.getD 8 []).getD j 0))).before args s = true := by
  match j, hj with
  | 0, _ => exact hs _ (List.mem_of_getElem? (i := 137) rfl)
  | 1, _ => exact hs _ (List.mem_of_getElem? (i := 138) rfl)
  | 2, _ => exact hs _ (List.mem_of_getElem? (i := 139) rfl)
  | n + 3, h => exact absurd h (by omega)
set_option maxRecDepth 100000 in
theorem pe_9 (hs : ∀ w ∈ flatC (Jvm.Cond.and given_1 narrow_1), w.before args s = true) (j : Nat) (hj : j < 4) : (Cond.eq (.elem (.field (tmS 9) "java/lang/String" "value" "[B") (.int (Int32.ofNat j))) (.int ((sByts.getD 9 []).getD j 0))).before args s = true := by
  match j, hj with
  | 0, _ => exact hs _ (List.mem_of_getElem? (i := 152) rfl)
  | 1, _ => exact hs _ (List.mem_of_getElem? (i := 153) rfl)
  | 2, _ => exact hs _ (List.mem_of_getElem? (i := 154) rfl)
  | 3, _ => exact hs _ (List.mem_of_getElem? (i := 155) rfl)
  | n + 4, h => exact absurd h (by omega)
set_option maxRecDepth 100000 in
theorem pe_10 (hs : ∀ w ∈ flatC (Jvm.Cond.and given_1 narrow_1), w.before args s = true) (j : Nat) (hj : j < 4) : (Cond.eq (.elem (.field (tmS 10) "java/lang/String" "value" "[B") (.int (Int32.ofNat j))) (.int ((sByts.getD 10 []).getD j 0))).before args s = true := by
  match j, hj with
  | 0, _ => exact hs _ (List.mem_of_getElem? (i := 169) rfl)
  | 1, _ => exact hs _ (List.mem_of_getElem? (i := 170) rfl)
  | 2, _ => exact hs _ (List.mem_of_getElem? (i := 171) rfl)
  | 3, _ => exact hs _ (List.mem_of_getElem? (i := 172) rfl)
  | n + 4, h => exact absurd h (by omega)
set_option maxRecDepth 100000 in
theorem pe_11 (hs : ∀ w ∈ flatC (Jvm.Cond.and given_1 narrow_1), w.before args s = true) (j : Nat) (hj : j < 4) : (Cond.eq (.elem (.field (tmS 11) "java/lang/String" "value" "[B") (.int (Int32.ofNat j))) (.int ((sByts.getD 11 []).getD j 0))).before args s = true := by
  match j, hj with
  | 0, _ => exact hs _ (List.mem_of_getElem? (i := 187) rfl)
  | 1, _ => exact hs _ (List.mem_of_getElem? (i := 188) rfl)
  | 2, _ => exact hs _ (List.mem_of_getElem? (i := 189) rfl)
  | 3, _ => exact hs _ (List.mem_of_getElem? (i := 190) rfl)
  | n + 4, h => exact absurd h (by omega)
theorem ps_2 (hs : ∀ w ∈ flatC (Jvm.Cond.and given_1 narrow_1), w.before args s = true) (i : Nat) (hi : i < 12) : ∀ j : Nat, j < sLens.getD i 0 → (Cond.eq (.elem (.field (tmS i) "java/lang/String" "value" "[B") (.int (Int32.ofNat j))) (.int ((sByts.getD i []).getD j 0))).before args s = true := by
    match i, hi with
    | 0, _ => exact pe_0 hs
    | 1, _ => exact pe_1 hs
    | 2, _ => exact pe_2 hs
    | 3, _ => exact pe_3 hs
    | 4, _ => exact pe_4 hs
    | 5, _ => exact pe_5 hs
    | 6, _ => exact pe_6 hs
    | 7, _ => exact pe_7 hs
    | 8, _ => exact pe_8 hs
    | 9, _ => exact pe_9 hs
    | 10, _ => exact pe_10 hs
    | 11, _ => exact pe_11 hs
    | n + 12, h => exact absurd h (by omega)
set_option maxRecDepth 100000 in
theorem pd_0 (hs : ∀ w ∈ flatC (Jvm.Cond.and given_1 narrow_1), w.before args s = true) (j : Nat) (hj : j < 12) (hij : 0 < j) : (Cond.not (Cond.eq (tmS 0) (tmS j))).before args s = true := by
  match j, hj, hij with
  | 0, _, h => exact absurd h (by decide)
  | 1, _, _ => exact hs _ (List.mem_of_getElem? (i := 58) rfl)
  | 2, _, _ => exact hs _ (List.mem_of_getElem? (i := 65) rfl)
  | 3, _, _ => exact hs _ (List.mem_of_getElem? (i := 74) rfl)
  | 4, _, _ => exact hs _ (List.mem_of_getElem? (i := 85) rfl)
  | 5, _, _ => exact hs _ (List.mem_of_getElem? (i := 97) rfl)
  | 6, _, _ => exact hs _ (List.mem_of_getElem? (i := 110) rfl)
  | 7, _, _ => exact hs _ (List.mem_of_getElem? (i := 126) rfl)
  | 8, _, _ => exact hs _ (List.mem_of_getElem? (i := 140) rfl)
  | 9, _, _ => exact hs _ (List.mem_of_getElem? (i := 156) rfl)
  | 10, _, _ => exact hs _ (List.mem_of_getElem? (i := 173) rfl)
  | 11, _, _ => exact hs _ (List.mem_of_getElem? (i := 191) rfl)
  | n + 12, h, _ => exact absurd h (by omega)
set_option maxRecDepth 100000 in
theorem pd_1 (hs : ∀ w ∈ flatC (Jvm.Cond.and given_1 narrow_1), w.before args s = true) (j : Nat) (hj : j < 12) (hij : 1 < j) : (Cond.not (Cond.eq (tmS 1) (tmS j))).before args s = true := by
  match j, hj, hij with
  | 0, _, h => exact absurd h (by decide)
  | 1, _, h => exact absurd h (by decide)
  | 2, _, _ => exact hs _ (List.mem_of_getElem? (i := 66) rfl)
  | 3, _, _ => exact hs _ (List.mem_of_getElem? (i := 75) rfl)
  | 4, _, _ => exact hs _ (List.mem_of_getElem? (i := 86) rfl)
  | 5, _, _ => exact hs _ (List.mem_of_getElem? (i := 98) rfl)
  | 6, _, _ => exact hs _ (List.mem_of_getElem? (i := 111) rfl)
  | 7, _, _ => exact hs _ (List.mem_of_getElem? (i := 127) rfl)
  | 8, _, _ => exact hs _ (List.mem_of_getElem? (i := 141) rfl)
  | 9, _, _ => exact hs _ (List.mem_of_getElem? (i := 157) rfl)
  | 10, _, _ => exact hs _ (List.mem_of_getElem? (i := 174) rfl)
  | 11, _, _ => exact hs _ (List.mem_of_getElem? (i := 192) rfl)
  | n + 12, h, _ => exact absurd h (by omega)
set_option maxRecDepth 100000 in
theorem pd_2 (hs : ∀ w ∈ flatC (Jvm.Cond.and given_1 narrow_1), w.before args s = true) (j : Nat) (hj : j < 12) (hij : 2 < j) : (Cond.not (Cond.eq (tmS 2) (tmS j))).before args s = true := by
  match j, hj, hij with
  | 0, _, h => exact absurd h (by decide)
  | 1, _, h => exact absurd h (by decide)
  | 2, _, h => exact absurd h (by decide)
  | 3, _, _ => exact hs _ (List.mem_of_getElem? (i := 76) rfl)
  | 4, _, _ => exact hs _ (List.mem_of_getElem? (i := 87) rfl)
  | 5, _, _ => exact hs _ (List.mem_of_getElem? (i := 99) rfl)
  | 6, _, _ => exact hs _ (List.mem_of_getElem? (i := 112) rfl)
  | 7, _, _ => exact hs _ (List.mem_of_getElem? (i := 128) rfl)
  | 8, _, _ => exact hs _ (List.mem_of_getElem? (i := 142) rfl)
  | 9, _, _ => exact hs _ (List.mem_of_getElem? (i := 158) rfl)
  | 10, _, _ => exact hs _ (List.mem_of_getElem? (i := 175) rfl)
  | 11, _, _ => exact hs _ (List.mem_of_getElem? (i := 193) rfl)
  | n + 12, h, _ => exact absurd h (by omega)
set_option maxRecDepth 100000 in
theorem pd_3 (hs : ∀ w ∈ flatC (Jvm.Cond.and given_1 narrow_1), w.before args s = true) (j : Nat) (hj : j < 12) (hij : 3 < j) : (Cond.not (Cond.eq (tmS 3) (tmS j))).before args s = true := by
  match j, hj, hij with
  | 0, _, h => exact absurd h (by decide)
  | 1, _, h => exact absurd h (by decide)
  | 2, _, h => exact absurd h (by decide)
  | 3, _, h => exact absurd h (by decide)
  | 4, _, _ => exact hs _ (List.mem_of_getElem? (i := 88) rfl)
  | 5, _, _ => exact hs _ (List.mem_of_getElem? (i := 100) rfl)
  | 6, _, _ => exact hs _ (List.mem_of_getElem? (i := 113) rfl)
  | 7, _, _ => exact hs _ (List.mem_of_getElem? (i := 129) rfl)
  | 8, _, _ => exact hs _ (List.mem_of_getElem? (i := 143) rfl)
  | 9, _, _ => exact hs _ (List.mem_of_getElem? (i := 159) rfl)
  | 10, _, _ => exact hs _ (List.mem_of_getElem? (i := 176) rfl)
  | 11, _, _ => exact hs _ (List.mem_of_getElem? (i := 194) rfl)
  | n + 12, h, _ => exact absurd h (by omega)
set_option maxRecDepth 100000 in
theorem pd_4 (hs : ∀ w ∈ flatC (Jvm.Cond.and given_1 narrow_1), w.before args s = true) (j : Nat) (hj : j < 12) (hij : 4 < j) : (Cond.not (Cond.eq (tmS 4) (tmS j))).before args s = true := by
  match j, hj, hij with
  | 0, _, h => exact absurd h (by decide)
  | 1, _, h => exact absurd h (by decide)
  | 2, _, h => exact absurd h (by decide)
  | 3, _, h => exact absurd h (by decide)
  | 4, _, h => exact absurd h (by decide)
  | 5, _, _ => exact hs _ (List.mem_of_getElem? (i := 101) rfl)
  | 6, _, _ => exact hs _ (List.mem_of_getElem? (i := 114) rfl)
  | 7, _, _ => exact hs _ (List.mem_of_getElem? (i := 130) rfl)
  | 8, _, _ => exact hs _ (List.mem_of_getElem? (i := 144) rfl)
  | 9, _, _ => exact hs _ (List.mem_of_getElem? (i := 160) rfl)
  | 10, _, _ => exact hs _ (List.mem_of_getElem? (i := 177) rfl)
  | 11, _, _ => exact hs _ (List.mem_of_getElem? (i := 195) rfl)
  | n + 12, h, _ => exact absurd h (by omega)
set_option maxRecDepth 100000 in
theorem pd_5 (hs : ∀ w ∈ flatC (Jvm.Cond.and given_1 narrow_1), w.before args s = true) (j : Nat) (hj : j < 12) (hij : 5 < j) : (Cond.not (Cond.eq (tmS 5) (tmS j))).before args s = true := by
  match j, hj, hij with
  | 0, _, h => exact absurd h (by decide)
  | 1, _, h => exact absurd h (by decide)
  | 2, _, h => exact absurd h (by decide)
  | 3, _, h => exact absurd h (by decide)
  | 4, _, h => exact absurd h (by decide)
  | 5, _, h => exact absurd h (by decide)
  | 6, _, _ => exact hs _ (List.mem_of_getElem? (i := 115) rfl)
  | 7, _, _ => exact hs _ (List.mem_of_getElem? (i := 131) rfl)
  | 8, _, _ => exact hs _ (List.mem_of_getElem? (i := 145) rfl)
  | 9, _, _ => exact hs _ (List.mem_of_getElem? (i := 161) rfl)
  | 10, _, _ => exact hs _ (List.mem_of_getElem? (i := 178) rfl)
  | 11, _, _ => exact hs _ (List.mem_of_getElem? (i := 196) rfl)
  | n + 12, h, _ => exact absurd h (by omega)
set_option maxRecDepth 100000 in
theorem pd_6 (hs : ∀ w ∈ flatC (Jvm.Cond.and given_1 narrow_1), w.before args s = true) (j : Nat) (hj : j < 12) (hij : 6 < j) : (Cond.not (Cond.eq (tmS 6) (tmS j))).before args s = true := by
  match j, hj, hij with
  | 0, _, h => exact absurd h (by decide)
  | 1, _, h => exact absurd h (by decide)
  | 2, _, h => exact absurd h (by decide)
  | 3, _, h => exact absurd h (by decide)
  | 4, _, h => exact absurd h (by decide)
  | 5, _, h => exact absurd h (by decide)
  | 6, _, h => exact absurd h (by decide)
  | 7, _, _ => exact hs _ (List.mem_of_getElem? (i := 132) rfl)
  | 8, _, _ => exact hs _ (List.mem_of_getElem? (i := 146) rfl)
  | 9, _, _ => exact hs _ (List.mem_of_getElem? (i := 162) rfl)
  | 10, _, _ => exact hs _ (List.mem_of_getElem? (i := 179) rfl)
  | 11, _, _ => exact hs _ (List.mem_of_getElem? (i := 197) rfl)
  | n + 12, h, _ => exact absurd h (by omega)
set_option maxRecDepth 100000 in
theorem pd_7 (hs : ∀ w ∈ flatC (Jvm.Cond.and given_1 narrow_1), w.before args s = true) (j : Nat) (hj : j < 12) (hij : 7 < j) : (Cond.not (Cond.eq (tmS 7) (tmS j))).before args s = true := by
  match j, hj, hij with
  | 0, _, h => exact absurd h (by decide)
  | 1, _, h => exact absurd h (by decide)
  | 2, _, h => exact absurd h (by decide)
  | 3, _, h => exact absurd h (by decide)
  | 4, _, h => exact absurd h (by decide)
  | 5, _, h => exact absurd h (by decide)
  | 6, _, h => exact absurd h (by decide)
  | 7, _, h => exact absurd h (by decide)
  | 8, _, _ => exact hs _ (List.mem_of_getElem? (i := 147) rfl)
  | 9, _, _ => exact hs _ (List.mem_of_getElem? (i := 163) rfl)
  | 10, _, _ => exact hs _ (List.mem_of_getElem? (i := 180) rfl)
  | 11, _, _ => exact hs _ (List.mem_of_getElem? (i := 198) rfl)
  | n + 12, h, _ => exact absurd h (by omega)
set_option maxRecDepth 100000 in
theorem pd_8 (hs : ∀ w ∈ flatC (Jvm.Cond.and given_1 narrow_1), w.before args s = true) (j : Nat) (hj : j < 12) (hij : 8 < j) : (Cond.not (Cond.eq (tmS 8) (tmS j))).before args s = true := by
  match j, hj, hij with
  | 0, _, h => exact absurd h (by decide)
  | 1, _, h => exact absurd h (by decide)
  | 2, _, h => exact absurd h (by decide)
  | 3, _, h => exact absurd h (by decide)
  | 4, _, h => exact absurd h (by decide)
  | 5, _, h => exact absurd h (by decide)
  | 6, _, h => exact absurd h (by decide)
  | 7, _, h => exact absurd h (by decide)
  | 8, _, h => exact absurd h (by decide)
  | 9, _, _ => exact hs _ (List.mem_of_getElem? (i := 164) rfl)
  | 10, _, _ => exact hs _ (List.mem_of_getElem? (i := 181) rfl)
  | 11, _, _ => exact hs _ (List.mem_of_getElem? (i := 199) rfl)
  | n + 12, h, _ => exact absurd h (by omega)
set_option maxRecDepth 100000 in
theorem pd_9 (hs : ∀ w ∈ flatC (Jvm.Cond.and given_1 narrow_1), w.before args s = true) (j : Nat) (hj : j < 12) (hij : 9 < j) : (Cond.not (Cond.eq (tmS 9) (tmS j))).before args s = true := by
  match j, hj, hij with
  | 0, _, h => exact absurd h (by decide)
  | 1, _, h => exact absurd h (by decide)
  | 2, _, h => exact absurd h (by decide)
  | 3, _, h => exact absurd h (by decide)
  | 4, _, h => exact absurd h (by decide)
  | 5, _, h => exact absurd h (by decide)
  | 6, _, h => exact absurd h (by decide)
  | 7, _, h => exact absurd h (by decide)
  | 8, _, h => exact absurd h (by decide)
  | 9, _, h => exact absurd h (by decide)
  | 10, _, _ => exact hs _ (List.mem_of_getElem? (i := 182) rfl)
  | 11, _, _ => exact hs _ (List.mem_of_getElem? (i := 200) rfl)
  | n + 12, h, _ => exact absurd h (by omega)
set_option maxRecDepth 100000 in
theorem pd_10 (hs : ∀ w ∈ flatC (Jvm.Cond.and given_1 narrow_1), w.before args s = true) (j : Nat) (hj : j < 12) (hij : 10 < j) : (Cond.not (Cond.eq (tmS 10) (tmS j))).before args s = true := by
  match j, hj, hij with
  | 0, _, h => exact absurd h (by decide)
  | 1, _, h => exact absurd h (by decide)
  | 2, _, h => exact absurd h (by decide)
  | 3, _, h => exact absurd h (by decide)
  | 4, _, h => exact absurd h (by decide)
  | 5, _, h => exact absurd h (by decide)
  | 6, _, h => exact absurd h (by decide)
  | 7, _, h => exact absurd h (by decide)
  | 8, _, h => exact absurd h (by decide)
  | 9, _, h => exact absurd h (by decide)
  | 10, _, h => exact absurd h (by decide)
  | 11, _, _ => exact hs _ (List.mem_of_getElem? (i := 201) rfl)
  | n + 12, h, _ => exact absurd h (by omega)
set_option maxRecDepth 100000 in
theorem pd_11 (hs : ∀ w ∈ flatC (Jvm.Cond.and given_1 narrow_1), w.before args s = true) (j : Nat) (hj : j < 12) (hij : 11 < j) : (Cond.not (Cond.eq (tmS 11) (tmS j))).before args s = true := by
  match j, hj, hij with
  | 0, _, h => exact absurd h (by decide)
  | 1, _, h => exact absurd h (by decide)
  | 2, _, h => exact absurd h (by decide)
  | 3, _, h => exact absurd h (by decide)
  | 4, _, h => exact absurd h (by decide)
  | 5, _, h => exact absurd h (by decide)
  | 6, _, h => exact absurd h (by decide)
  | 7, _, h => exact absurd h (by decide)
  | 8, _, h => exact absurd h (by decide)
  | 9, _, h => exact absurd h (by decide)
  | 10, _, h => exact absurd h (by decide)
  | 11, _, h => exact absurd h (by decide)
  | n + 12, h, _ => exact absurd h (by omega)
theorem ps_3 (hs : ∀ w ∈ flatC (Jvm.Cond.and given_1 narrow_1), w.before args s = true) (i : Nat) (hi : i < 12) : ∀ j : Nat, j < 12 → i < j → (Cond.not (Cond.eq (tmS i) (tmS j))).before args s = true := by
    match i, hi with
    | 0, _ => exact pd_0 hs
    | 1, _ => exact pd_1 hs
    | 2, _ => exact pd_2 hs
    | 3, _ => exact pd_3 hs
    | 4, _ => exact pd_4 hs
    | 5, _ => exact pd_5 hs
    | 6, _ => exact pd_6 hs
    | 7, _ => exact pd_7 hs
    | 8, _ => exact pd_8 hs
    | 9, _ => exact pd_9 hs
    | 10, _ => exact pd_10 hs
    | 11, _ => exact pd_11 hs
    | n + 12, h => exact absurd h (by omega)
set_option maxRecDepth 100000 in
theorem ps_4 (hts : ∀ w ∈ lw_tbl, w.before args s = true) (i : Nat) (hi : i < 12) : (Cond.stringRef RX4 (cpS i) (txS i)).before args s = true := by
    match i, hi with
    | 0, _ => exact hts _ (wv3 215 rfl)
    | 1, _ => exact hts _ (wv4 40 rfl)
    | 2, _ => exact hts _ (wv4 45 rfl)
    | 3, _ => exact hts _ (wv4 46 rfl)
    | 4, _ => exact hts _ (wv4 58 rfl)
    | 5, _ => exact hts _ (wv4 59 rfl)
    | 6, _ => exact hts _ (wv4 60 rfl)
    | 7, _ => exact hts _ (wv4 61 rfl)
    | 8, _ => exact hts _ (wv4 62 rfl)
    | 9, _ => exact hts _ (wv4 63 rfl)
    | 10, _ => exact hts _ (wv4 64 rfl)
    | 11, _ => exact hts _ (wv4 65 rfl)
    | n + 12, h => exact absurd h (by omega)
theorem ps_S (hs : ∀ w ∈ flatC (Jvm.Cond.and given_1 narrow_1), w.before args s = true) : ∃ adK adV : Nat → Nat, vk_S 12 sLens sByts adK adV (Ab s.heap.size) s s.heap ∧ ∀ i : Nat, i < 12 → (tmS i).eval args s none [] s = some (.ref (adK i)) := by
  refine vk_Sof (tm := tmS) (fun i hi => ?_) (fun i hi => (ps_1 hs i hi).1) (fun i hi => (ps_1 hs i hi).2.1) (fun i hi => (ps_1 hs i hi).2.2.1) (fun i hi => (ps_1 hs i hi).2.2.2) (fun i hi j hj => ps_2 hs i hi j hj) (fun i j hi hj hij => ?_) (fun a h => Nat.not_le.mpr h)
  · exact Nat.lt_of_le_of_lt (show sLens.getD i 0 ≤ 6 from (by decide : ∀ i, i < 12 → sLens.getD i 0 ≤ 6) i hi) (by decide)
  · rcases Nat.lt_or_gt_of_ne hij with h | h
    · exact Or.inl (ps_3 hs i hi j hj h)
    · exact Or.inr (ps_3 hs j hj i hi h)
set_option maxRecDepth 100000 in
theorem ps_N (hts : ∀ w ∈ lw_tbl, w.before args s = true) : aOv s ∧ aNw s ∧ va_Nw (.methodLinkNest RX4 26 yX10_isWithin "LandLines") s := ⟨Jvm.Stand.arrayOver_alikeB (Vm.Alike.refl _) (hts (.arrayOver (.array .int)) (wv1 36 rfl)), va_Nw.of rfl (hts _ (wv1 67 rfl)), va_Nw.of rfl (hts _ (wv3 189 rfl))⟩
def kvOf (t1 t2 t3 : Nat) (z : Option Nat) (adK adV : Nat → Nat) (b : Nat) (a : Nat) : Option Nat :=
  if a = 237 then some t1 else if a = 238 then some t2 else if a = 239 then some t3 else if a < 252 then some (adK (a - 240)) else if a < 264 then some (adV (a - 252)) else if a = 264 then z else if a = 265 then some b else none
theorem start_C {b L : Nat} {xs : Nat → Int32} (hts : ∀ w ∈ lw_tbl, w.before args s = true) (hgv : (Jvm.Cond.and given_1 narrow_1).before args s = true) (hX : va_X b L xs s s.heap) (hbl : b < s.heap.size) : ∃ kv : Nat → Option Nat, CC s.heap.size kv xs L s s.heap ∧ kv 265 = some b := by
  have hs := flat_of_before _ hgv
  obtain ⟨t1, a1, b1⟩ := pz_AT_FIRST hts hs
  obtain ⟨t2, a2, b2⟩ := pz_LOWEST hts hs
  obtain ⟨t3, a3, b3⟩ := pz_HIGHEST hts hs
  have a4 := pz_comp hts hs
  obtain ⟨adK, adV, hS, hE⟩ := ps_S hs
  obtain ⟨n1, n2, n3⟩ := ps_N hts
  obtain ⟨z, hz⟩ : ∃ z : Option Nat, va_Z RJ3 "SIOOBE_FORMATTER" "Ljava/util/function/BiFunction;" (va_rf z) (Ab s.heap.size) s s.heap := by
    rcases pz_form hts hs with h | ⟨t, h⟩
    · exact ⟨none, h⟩
    · exact ⟨some t, h⟩
  refine ⟨kvOf t1 t2 t3 z adK adV b, ⟨⟨⟨a1, a2, a3, a4, hz⟩, fun a l e => ?_, ⟨adK, adV, hS, fun i hi => ⟨?_, ?_, ?_⟩⟩, n3, b, rfl, hX, Nat.not_le.mpr hbl⟩, n1, n2⟩, rfl⟩
  · have := lk_mem e
    simp only [cT, List.mem_cons, Prod.mk.injEq, List.not_mem_nil, or_false] at this
    rcases this with ⟨rfl, rfl⟩ | ⟨rfl, rfl⟩ | ⟨rfl, rfl⟩
    · exact ⟨t1, rfl, b1⟩
    · exact ⟨t2, rfl, b2⟩
    · exact ⟨t3, rfl, b3⟩
  · unfold kvOf
    rw [if_neg (by omega), if_neg (by omega), if_neg (by omega), if_pos (by omega), Nat.add_sub_cancel_left]
  · unfold kvOf idByt
    rw [if_neg (by omega), if_neg (by omega), if_neg (by omega), if_neg (by omega), if_pos (by omega), Nat.add_sub_cancel_left]
  · exact vk_R.of (A := args) (ps_4 hts i hi) (hE i hi)
end PREM
