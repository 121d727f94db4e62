def gsV (kv : Nat → Option Nat) (z : Nat ⊕ Int32) : Value := match z with
  | .inl a => va_rf (kv a)
  | .inr v => .int v
def gsOK (c : Nat) (q : Nat × (Nat ⊕ Int32)) : Prop := ∃ C n d, Cond.fieldLink (cN c) q.1 C n d ∈ wF ∧ (∀ base kv xs nS U H, KC base kv xs nS U H → va_Z C n d (gsV kv q.2) (Ab base) U H) ∧ ∀ a, q.2 = .inl a → ¬ a < mNN
def sfOK (c : Nat) (q : Nat × Bool) : Prop := (q.2 = true ∧ Cond.fieldLink (cN c) q.1 "java/lang/String" "value" "[B" ∈ wF) ∨ (q.2 = false ∧ Cond.fieldLink (cN c) q.1 "java/lang/String" "coder" "B" ∈ wF)
def slOK (c : Nat) (q : Nat × Nat) : Prop := c = 4 ∧ ∃ i, i < 12 ∧ q.1 = cpS i ∧ q.2 = 240 + i
set_option maxRecDepth 20000 in
theorem gso_X0 : ∀ q ∈ gs_X0, gsOK 0 q := memn
set_option maxRecDepth 20000 in
theorem sfo_X0 : ∀ q ∈ sf_X0, sfOK 0 q := memn
theorem slo_X0 : ∀ q ∈ sl_X0, slOK 0 q := memn
set_option maxRecDepth 20000 in
theorem gso_X1 : ∀ q ∈ gs_X1, gsOK 1 q := memn
set_option maxRecDepth 20000 in
theorem sfo_X1 : ∀ q ∈ sf_X1, sfOK 1 q := memn
theorem slo_X1 : ∀ q ∈ sl_X1, slOK 1 q := memn
set_option maxRecDepth 20000 in
theorem gso_X2 : ∀ q ∈ gs_X2, gsOK 2 q := memn
set_option maxRecDepth 20000 in
theorem sfo_X2 : ∀ q ∈ sf_X2, sfOK 2 q := memn
theorem slo_X2 : ∀ q ∈ sl_X2, slOK 2 q := memn
set_option maxRecDepth 20000 in
theorem gso_X3 : ∀ q ∈ gs_X3, gsOK 3 q := memn
set_option maxRecDepth 20000 in
theorem sfo_X3 : ∀ q ∈ sf_X3, sfOK 3 q := memn
theorem slo_X3 : ∀ q ∈ sl_X3, slOK 3 q := memn
set_option maxRecDepth 20000 in
theorem gso_X4 : ∀ q ∈ gs_X4, gsOK 4 q := memc (⟨_, _, _, wt4 66 rfl rfl, fun base kv xs nS U H h => h.1.2.1, fun a e => by cases e; decide⟩) (memc (⟨_, _, _, wt4 68 rfl rfl, fun base kv xs nS U H h => h.1.2.2.1, fun a e => by cases e; decide⟩) (memn))
set_option maxRecDepth 20000 in
theorem sfo_X4 : ∀ q ∈ sf_X4, sfOK 4 q := memn
theorem slo_X4 : ∀ q ∈ sl_X4, slOK 4 q := memc (⟨rfl, 0, by decide, rfl, rfl⟩) (memc (⟨rfl, 1, by decide, rfl, rfl⟩) (memc (⟨rfl, 2, by decide, rfl, rfl⟩) (memc (⟨rfl, 3, by decide, rfl, rfl⟩) (memc (⟨rfl, 4, by decide, rfl, rfl⟩) (memc (⟨rfl, 5, by decide, rfl, rfl⟩) (memc (⟨rfl, 6, by decide, rfl, rfl⟩) (memc (⟨rfl, 7, by decide, rfl, rfl⟩) (memc (⟨rfl, 8, by decide, rfl, rfl⟩) (memc (⟨rfl, 9, by decide, rfl, rfl⟩) (memc (⟨rfl, 10, by decide, rfl, rfl⟩) (memc (⟨rfl, 11, by decide, rfl, rfl⟩) (memn))))))))))))
set_option maxRecDepth 20000 in
theorem gso_X5 : ∀ q ∈ gs_X5, gsOK 5 q := memc (⟨_, _, _, wt1 41 rfl rfl, fun base kv xs nS U H h => h.1.1, fun a e => by cases e; decide⟩) (memn)
set_option maxRecDepth 20000 in
theorem sfo_X5 : ∀ q ∈ sf_X5, sfOK 5 q := memn
theorem slo_X5 : ∀ q ∈ sl_X5, slOK 5 q := memn
set_option maxRecDepth 20000 in
theorem gso_X6 : ∀ q ∈ gs_X6, gsOK 6 q := memn
set_option maxRecDepth 20000 in
theorem sfo_X6 : ∀ q ∈ sf_X6, sfOK 6 q := memn
theorem slo_X6 : ∀ q ∈ sl_X6, slOK 6 q := memn
set_option maxRecDepth 20000 in
theorem gso_X7 : ∀ q ∈ gs_X7, gsOK 7 q := memn
set_option maxRecDepth 20000 in
theorem sfo_X7 : ∀ q ∈ sf_X7, sfOK 7 q := memn
theorem slo_X7 : ∀ q ∈ sl_X7, slOK 7 q := memn
set_option maxRecDepth 20000 in
theorem gso_X8 : ∀ q ∈ gs_X8, gsOK 8 q := memn
set_option maxRecDepth 20000 in
theorem sfo_X8 : ∀ q ∈ sf_X8, sfOK 8 q := memn
theorem slo_X8 : ∀ q ∈ sl_X8, slOK 8 q := memn
set_option maxRecDepth 20000 in
theorem gso_X9 : ∀ q ∈ gs_X9, gsOK 9 q := memn
set_option maxRecDepth 20000 in
theorem sfo_X9 : ∀ q ∈ sf_X9, sfOK 9 q := memn
theorem slo_X9 : ∀ q ∈ sl_X9, slOK 9 q := memn
set_option maxRecDepth 20000 in
theorem gso_X10 : ∀ q ∈ gs_X10, gsOK 10 q := memn
set_option maxRecDepth 20000 in
theorem sfo_X10 : ∀ q ∈ sf_X10, sfOK 10 q := memn
theorem slo_X10 : ∀ q ∈ sl_X10, slOK 10 q := memn
set_option maxRecDepth 20000 in
theorem gso_X11 : ∀ q ∈ gs_X11, gsOK 11 q := memn
set_option maxRecDepth 20000 in
theorem sfo_X11 : ∀ q ∈ sf_X11, sfOK 11 q := memn
theorem slo_X11 : ∀ q ∈ sl_X11, slOK 11 q := memn
set_option maxRecDepth 20000 in
theorem gso_J0 : ∀ q ∈ gs_J0, gsOK 12 q := memc (⟨_, _, _, wt3 228 rfl rfl, fun base kv xs nS U H h => h.1.2.2.2.1, fun a e => by cases e⟩) (memc (⟨_, _, _, wt4 4 rfl rfl, fun base kv xs nS U H h => h.1.2.2.2.2, fun a e => by cases e; decide⟩) (memn))
set_option maxRecDepth 20000 in
theorem sfo_J0 : ∀ q ∈ sf_J0, sfOK 12 q := memc (Or.inl ⟨rfl, wt8 160 rfl rfl⟩) (memc (Or.inr ⟨rfl, wt8 161 rfl rfl⟩) (memn))
theorem slo_J0 : ∀ q ∈ sl_J0, slOK 12 q := memn
set_option maxRecDepth 20000 in
theorem gso_J1 : ∀ q ∈ gs_J1, gsOK 13 q := memn
set_option maxRecDepth 20000 in
theorem sfo_J1 : ∀ q ∈ sf_J1, sfOK 13 q := memn
theorem slo_J1 : ∀ q ∈ sl_J1, slOK 13 q := memn
set_option maxRecDepth 20000 in
theorem gso_J3 : ∀ q ∈ gs_J3, gsOK 14 q := memn
set_option maxRecDepth 20000 in
theorem sfo_J3 : ∀ q ∈ sf_J3, sfOK 14 q := memn
theorem slo_J3 : ∀ q ∈ sl_J3, slOK 14 q := memn
set_option maxRecDepth 20000 in
theorem gso_J6 : ∀ q ∈ gs_J6, gsOK 15 q := memn
set_option maxRecDepth 20000 in
theorem sfo_J6 : ∀ q ∈ sf_J6, sfOK 15 q := memn
theorem slo_J6 : ∀ q ∈ sl_J6, slOK 15 q := memn
set_option maxRecDepth 20000 in
theorem gso_J7 : ∀ q ∈ gs_J7, gsOK 16 q := memn
set_option maxRecDepth 20000 in
theorem sfo_J7 : ∀ q ∈ sf_J7, sfOK 16 q := memn
theorem slo_J7 : ∀ q ∈ sl_J7, slOK 16 q := memn
set_option maxRecDepth 20000 in
theorem gso_J9 : ∀ q ∈ gs_J9, gsOK 17 q := memn
set_option maxRecDepth 20000 in
theorem sfo_J9 : ∀ q ∈ sf_J9, sfOK 17 q := memn
theorem slo_J9 : ∀ q ∈ sl_J9, slOK 17 q := memn
set_option maxRecDepth 20000 in
theorem gso_L : ∀ q ∈ gs_L, gsOK 18 q := memn
set_option maxRecDepth 20000 in
theorem sfo_L : ∀ q ∈ sf_L, sfOK 18 q := memn
theorem slo_L : ∀ q ∈ sl_L, slOK 18 q := memn
theorem gsC_ok (c : Nat) (hc : c < 19) : ∀ q ∈ gsC c, gsOK c q := by
  match c, hc with
  | 0, _ => exact gso_X0
  | 1, _ => exact gso_X1
  | 2, _ => exact gso_X2
  | 3, _ => exact gso_X3
  | 4, _ => exact gso_X4
  | 5, _ => exact gso_X5
  | 6, _ => exact gso_X6
  | 7, _ => exact gso_X7
  | 8, _ => exact gso_X8
  | 9, _ => exact gso_X9
  | 10, _ => exact gso_X10
  | 11, _ => exact gso_X11
  | 12, _ => exact gso_J0
  | 13, _ => exact gso_J1
  | 14, _ => exact gso_J3
  | 15, _ => exact gso_J6
  | 16, _ => exact gso_J7
  | 17, _ => exact gso_J9
  | 18, _ => exact gso_L
  | n + 19, h => exact absurd h (by omega)
theorem sfC_ok (c : Nat) (hc : c < 19) : ∀ q ∈ sfC c, sfOK c q := by
  match c, hc with
  | 0, _ => exact sfo_X0
  | 1, _ => exact sfo_X1
  | 2, _ => exact sfo_X2
  | 3, _ => exact sfo_X3
  | 4, _ => exact sfo_X4
  | 5, _ => exact sfo_X5
  | 6, _ => exact sfo_X6
  | 7, _ => exact sfo_X7
  | 8, _ => exact sfo_X8
  | 9, _ => exact sfo_X9
  | 10, _ => exact sfo_X10
  | 11, _ => exact sfo_X11
  | 12, _ => exact sfo_J0
  | 13, _ => exact sfo_J1
  | 14, _ => exact sfo_J3
  | 15, _ => exact sfo_J6
  | 16, _ => exact sfo_J7
  | 17, _ => exact sfo_J9
  | 18, _ => exact sfo_L
  | n + 19, h => exact absurd h (by omega)
theorem slC_ok (c : Nat) (hc : c < 19) : ∀ q ∈ slC c, slOK c q := by
  match c, hc with
  | 0, _ => exact slo_X0
  | 1, _ => exact slo_X1
  | 2, _ => exact slo_X2
  | 3, _ => exact slo_X3
  | 4, _ => exact slo_X4
  | 5, _ => exact slo_X5
  | 6, _ => exact slo_X6
  | 7, _ => exact slo_X7
  | 8, _ => exact slo_X8
  | 9, _ => exact slo_X9
  | 10, _ => exact slo_X10
  | 11, _ => exact slo_X11
  | 12, _ => exact slo_J0
  | 13, _ => exact slo_J1
  | 14, _ => exact slo_J3
  | 15, _ => exact slo_J6
  | 16, _ => exact slo_J7
  | 17, _ => exact slo_J9
  | 18, _ => exact slo_L
  | n + 19, h => exact absurd h (by omega)
theorem vwCl_cN : ∀ (ci : Nat) (q : vw_C), vwCl[ci]? = some q → q.1 = cN ci := by
  intro ci q h
  match ci, h with
  | 0, h => cases h; rfl
  | 1, h => cases h; rfl
  | 2, h => cases h; rfl
  | 3, h => cases h; rfl
  | 4, h => cases h; rfl
  | 5, h => cases h; rfl
  | 6, h => cases h; rfl
  | 7, h => cases h; rfl
  | 8, h => cases h; rfl
  | 9, h => cases h; rfl
  | 10, h => cases h; rfl
  | 11, h => cases h; rfl
  | n + 12, h => simp [vwCl] at h
def mClB (q : mRec) : Prop := q.2.2.2.2.2.1 < 19
theorem mcb_X0_has : mClB mr_X0_has := Nat.le_of_ble_eq_true rfl
theorem mcb_X0_add : mClB mr_X0_add := Nat.le_of_ble_eq_true rfl
theorem mcb_X0_narrow : mClB mr_X0_narrow := Nat.le_of_ble_eq_true rfl
theorem mcb_X0_isInHands : mClB mr_X0_isInHands := Nat.le_of_ble_eq_true rfl
theorem mcb_X0_isOpen : mClB mr_X0_isOpen := Nat.le_of_ble_eq_true rfl
theorem mcb_X0_openOnes : mClB mr_X0_openOnes := Nat.le_of_ble_eq_true rfl
theorem mcb_X0_isCut : mClB mr_X0_isCut := Nat.le_of_ble_eq_true rfl
theorem mcb_X0_stateOf : mClB mr_X0_stateOf := Nat.le_of_ble_eq_true rfl
theorem mcb_X0_litLines : mClB mr_X0_litLines := Nat.le_of_ble_eq_true rfl
theorem mcb_X0_roomOf : mClB mr_X0_roomOf := Nat.le_of_ble_eq_true rfl
theorem mcb_X0_farFrom : mClB mr_X0_farFrom := Nat.le_of_ble_eq_true rfl
theorem mcb_X0_farFromRow : mClB mr_X0_farFromRow := Nat.le_of_ble_eq_true rfl
theorem mcb_X0_gap : mClB mr_X0_gap := Nat.le_of_ble_eq_true rfl
theorem mcb_X0_couldShare : mClB mr_X0_couldShare := Nat.le_of_ble_eq_true rfl
theorem mcb_X0_downHours : mClB mr_X0_downHours := Nat.le_of_ble_eq_true rfl
theorem mcb_X0_nextDown : mClB mr_X0_nextDown := Nat.le_of_ble_eq_true rfl
theorem mcb_X1_has : mClB mr_X1_has := Nat.le_of_ble_eq_true rfl
theorem mcb_X1_add : mClB mr_X1_add := Nat.le_of_ble_eq_true rfl
theorem mcb_X1_hasLeave : mClB mr_X1_hasLeave := Nat.le_of_ble_eq_true rfl
theorem mcb_X1_reelFor : mClB mr_X1_reelFor := Nat.le_of_ble_eq_true rfl
theorem mcb_X1_placeX : mClB mr_X1_placeX := Nat.le_of_ble_eq_true rfl
theorem mcb_X1_placeY : mClB mr_X1_placeY := Nat.le_of_ble_eq_true rfl
theorem mcb_X1_hoursTo : mClB mr_X1_hoursTo := Nat.le_of_ble_eq_true rfl
theorem mcb_X1_mayMend : mClB mr_X1_mayMend := Nat.le_of_ble_eq_true rfl
theorem mcb_X1_beginsIn : mClB mr_X1_beginsIn := Nat.le_of_ble_eq_true rfl
theorem mcb_X1_takeInHands : mClB mr_X1_takeInHands := Nat.le_of_ble_eq_true rfl
theorem mcb_X2_gather : mClB mr_X2_gather := Nat.le_of_ble_eq_true rfl
theorem mcb_X2_jobBits : mClB mr_X2_jobBits := Nat.le_of_ble_eq_true rfl
theorem mcb_X2_weigh : mClB mr_X2_weigh := Nat.le_of_ble_eq_true rfl
theorem mcb_X2_measure : mClB mr_X2_measure := Nat.le_of_ble_eq_true rfl
theorem mcb_X2_weightOf : mClB mr_X2_weightOf := Nat.le_of_ble_eq_true rfl
theorem mcb_X2_costFrom : mClB mr_X2_costFrom := Nat.le_of_ble_eq_true rfl
theorem mcb_X2_costFor : mClB mr_X2_costFor := Nat.le_of_ble_eq_true rfl
theorem mcb_X2_findBest : mClB mr_X2_findBest := Nat.le_of_ble_eq_true rfl
theorem mcb_X2_costOfParting : mClB mr_X2_costOfParting := Nat.le_of_ble_eq_true rfl
theorem mcb_X2_nextParting : mClB mr_X2_nextParting := Nat.le_of_ble_eq_true rfl
theorem mcb_X2_bestShipOf : mClB mr_X2_bestShipOf := Nat.le_of_ble_eq_true rfl
theorem mcb_X2_goPlainly : mClB mr_X2_goPlainly := Nat.le_of_ble_eq_true rfl
theorem mcb_X2_firstFree : mClB mr_X2_firstFree := Nat.le_of_ble_eq_true rfl
theorem mcb_X2_soonestFor : mClB mr_X2_soonestFor := Nat.le_of_ble_eq_true rfl
theorem mcb_X2_doPlainly : mClB mr_X2_doPlainly := Nat.le_of_ble_eq_true rfl
theorem mcb_X2_plainLeft : mClB mr_X2_plainLeft := Nat.le_of_ble_eq_true rfl
theorem mcb_X3_hasLand : mClB mr_X3_hasLand := Nat.le_of_ble_eq_true rfl
theorem mcb_X3_hasLine : mClB mr_X3_hasLine := Nat.le_of_ble_eq_true rfl
theorem mcb_X3_addLand : mClB mr_X3_addLand := Nat.le_of_ble_eq_true rfl
theorem mcb_X3_addLine : mClB mr_X3_addLine := Nat.le_of_ble_eq_true rfl
theorem mcb_X3_lightIn : mClB mr_X3_lightIn := Nat.le_of_ble_eq_true rfl
theorem mcb_X3_isBright : mClB mr_X3_isBright := Nat.le_of_ble_eq_true rfl
theorem mcb_X3_fullRoom : mClB mr_X3_fullRoom := Nat.le_of_ble_eq_true rfl
theorem mcb_X3_otherEnd : mClB mr_X3_otherEnd := Nat.le_of_ble_eq_true rfl
theorem mcb_X3_stepsAlongX : mClB mr_X3_stepsAlongX := Nat.le_of_ble_eq_true rfl
theorem mcb_X3_placeX : mClB mr_X3_placeX := Nat.le_of_ble_eq_true rfl
theorem mcb_X3_placeY : mClB mr_X3_placeY := Nat.le_of_ble_eq_true rfl
theorem mcb_X4_takeBytes : mClB mr_X4_takeBytes := Nat.le_of_ble_eq_true rfl
theorem mcb_X4_keepFirst : mClB mr_X4_keepFirst := Nat.le_of_ble_eq_true rfl
theorem mcb_X4_tell : mClB mr_X4_tell := Nat.le_of_ble_eq_true rfl
theorem mcb_X4_readLine : mClB mr_X4_readLine := Nat.le_of_ble_eq_true rfl
theorem mcb_X4_readRent : mClB mr_X4_readRent := Nat.le_of_ble_eq_true rfl
theorem mcb_X4_readHouse : mClB mr_X4_readHouse := Nat.le_of_ble_eq_true rfl
theorem mcb_X4_readWord : mClB mr_X4_readWord := Nat.le_of_ble_eq_true rfl
theorem mcb_X4_readStop : mClB mr_X4_readStop := Nat.le_of_ble_eq_true rfl
theorem mcb_X4_readNumber : mClB mr_X4_readNumber := Nat.le_of_ble_eq_true rfl
theorem mcb_X4_fail : mClB mr_X4_fail := Nat.le_of_ble_eq_true rfl
theorem mcb_X4_nextToken : mClB mr_X4_nextToken := Nat.le_of_ble_eq_true rfl
theorem mcb_X4_nextNumber : mClB mr_X4_nextNumber := Nat.le_of_ble_eq_true rfl
theorem mcb_X4_isWord : mClB mr_X4_isWord := Nat.le_of_ble_eq_true rfl
theorem mcb_X4_ruleNamed : mClB mr_X4_ruleNamed := Nat.le_of_ble_eq_true rfl
theorem mcb_X4_nameOf : mClB mr_X4_nameOf := Nat.le_of_ble_eq_true rfl
theorem mcb_X5_setAtFirst : mClB mr_X5_setAtFirst := Nat.le_of_ble_eq_true rfl
theorem mcb_X5_copyFrom : mClB mr_X5_copyFrom := Nat.le_of_ble_eq_true rfl
theorem mcb_X6_findBest : mClB mr_X6_findBest := Nat.le_of_ble_eq_true rfl
theorem mcb_X6_isBetter : mClB mr_X6_isBetter := Nat.le_of_ble_eq_true rfl
theorem mcb_X6_coinsOf : mClB mr_X6_coinsOf := Nat.le_of_ble_eq_true rfl
theorem mcb_X6_isSafe : mClB mr_X6_isSafe := Nat.le_of_ble_eq_true rfl
theorem mcb_X6_gatherTies : mClB mr_X6_gatherTies := Nat.le_of_ble_eq_true rfl
theorem mcb_X6_addTie : mClB mr_X6_addTie := Nat.le_of_ble_eq_true rfl
theorem mcb_X6_areJoinedWell : mClB mr_X6_areJoinedWell := Nat.le_of_ble_eq_true rfl
theorem mcb_X6_spread : mClB mr_X6_spread := Nat.le_of_ble_eq_true rfl
theorem mcb_X6_giveBack : mClB mr_X6_giveBack := Nat.le_of_ble_eq_true rfl
theorem mcb_X7_has : mClB mr_X7_has := Nat.le_of_ble_eq_true rfl
theorem mcb_X7_isLane : mClB mr_X7_isLane := Nat.le_of_ble_eq_true rfl
theorem mcb_X7_isNothing : mClB mr_X7_isNothing := Nat.le_of_ble_eq_true rfl
theorem mcb_X7_hasCell : mClB mr_X7_hasCell := Nat.le_of_ble_eq_true rfl
theorem mcb_X7_begin : mClB mr_X7_begin := Nat.le_of_ble_eq_true rfl
theorem mcb_X7_put : mClB mr_X7_put := Nat.le_of_ble_eq_true rfl
theorem mcb_X8_has : mClB mr_X8_has := Nat.le_of_ble_eq_true rfl
theorem mcb_X8_add : mClB mr_X8_add := Nat.le_of_ble_eq_true rfl
theorem mcb_X9_keepRooms : mClB mr_X9_keepRooms := Nat.le_of_ble_eq_true rfl
theorem mcb_X9_goesBy : mClB mr_X9_goesBy := Nat.le_of_ble_eq_true rfl
theorem mcb_X9_ahead : mClB mr_X9_ahead := Nat.le_of_ble_eq_true rfl
theorem mcb_X9_lead : mClB mr_X9_lead := Nat.le_of_ble_eq_true rfl
theorem mcb_X9_leadOne : mClB mr_X9_leadOne := Nat.le_of_ble_eq_true rfl
theorem mcb_X9_stepOf : mClB mr_X9_stepOf := Nat.le_of_ble_eq_true rfl
theorem mcb_X9_measureTo : mClB mr_X9_measureTo := Nat.le_of_ble_eq_true rfl
theorem mcb_X9_follow : mClB mr_X9_follow := Nat.le_of_ble_eq_true rfl
theorem mcb_X9_leastStep : mClB mr_X9_leastStep := Nat.le_of_ble_eq_true rfl
theorem mcb_X9_heapsWithout : mClB mr_X9_heapsWithout := Nat.le_of_ble_eq_true rfl
theorem mcb_X9_joinHeaps : mClB mr_X9_joinHeaps := Nat.le_of_ble_eq_true rfl
theorem mcb_X9_swingUntilBack : mClB mr_X9_swingUntilBack := Nat.le_of_ble_eq_true rfl
theorem mcb_X9_sameTurn : mClB mr_X9_sameTurn := Nat.le_of_ble_eq_true rfl
theorem mcb_X9_areLike : mClB mr_X9_areLike := Nat.le_of_ble_eq_true rfl
theorem mcb_X9_chooseAll : mClB mr_X9_chooseAll := Nat.le_of_ble_eq_true rfl
theorem mcb_X9_chooseTo : mClB mr_X9_chooseTo := Nat.le_of_ble_eq_true rfl
theorem mcb_X9_greatestLoad : mClB mr_X9_greatestLoad := Nat.le_of_ble_eq_true rfl
theorem mcb_X9_overfull : mClB mr_X9_overfull := Nat.le_of_ble_eq_true rfl
theorem mcb_X10_land : mClB mr_X10_land := Nat.le_of_ble_eq_true rfl
theorem mcb_X10_line : mClB mr_X10_line := Nat.le_of_ble_eq_true rfl
theorem mcb_X10_lineOf : mClB mr_X10_lineOf := Nat.le_of_ble_eq_true rfl
theorem mcb_X10_light : mClB mr_X10_light := Nat.le_of_ble_eq_true rfl
theorem mcb_X10_until : mClB mr_X10_until := Nat.le_of_ble_eq_true rfl
theorem mcb_X10_change : mClB mr_X10_change := Nat.le_of_ble_eq_true rfl
theorem mcb_X10_year : mClB mr_X10_year := Nat.le_of_ble_eq_true rfl
theorem mcb_X10_hour : mClB mr_X10_hour := Nat.le_of_ble_eq_true rfl
theorem mcb_X10_feed : mClB mr_X10_feed := Nat.le_of_ble_eq_true rfl
theorem mcb_X10_end : mClB mr_X10_end := Nat.le_of_ble_eq_true rfl
theorem mcb_X10_rules : mClB mr_X10_rules := Nat.le_of_ble_eq_true rfl
theorem mcb_X10_fault : mClB mr_X10_fault := Nat.le_of_ble_eq_true rfl
theorem mcb_X10_rule : mClB mr_X10_rule := Nat.le_of_ble_eq_true rfl
theorem mcb_X10_rent : mClB mr_X10_rent := Nat.le_of_ble_eq_true rfl
theorem mcb_X10_demand : mClB mr_X10_demand := Nat.le_of_ble_eq_true rfl
theorem mcb_X10_much : mClB mr_X10_much := Nat.le_of_ble_eq_true rfl
theorem mcb_X10_led : mClB mr_X10_led := Nat.le_of_ble_eq_true rfl
theorem mcb_X10_way : mClB mr_X10_way := Nat.le_of_ble_eq_true rfl
theorem mcb_X10_parts : mClB mr_X10_parts := Nat.le_of_ble_eq_true rfl
theorem mcb_X10_worst : mClB mr_X10_worst := Nat.le_of_ble_eq_true rfl
theorem mcb_X10_swing : mClB mr_X10_swing := Nat.le_of_ble_eq_true rfl
theorem mcb_X10_swings : mClB mr_X10_swings := Nat.le_of_ble_eq_true rfl
theorem mcb_X10_cut : mClB mr_X10_cut := Nat.le_of_ble_eq_true rfl
theorem mcb_X10_echo : mClB mr_X10_echo := Nat.le_of_ble_eq_true rfl
theorem mcb_X10_breakOf : mClB mr_X10_breakOf := Nat.le_of_ble_eq_true rfl
theorem mcb_X10_quake : mClB mr_X10_quake := Nat.le_of_ble_eq_true rfl
theorem mcb_X10_shared : mClB mr_X10_shared := Nat.le_of_ble_eq_true rfl
theorem mcb_X10_ship : mClB mr_X10_ship := Nat.le_of_ble_eq_true rfl
theorem mcb_X10_shipOf : mClB mr_X10_shipOf := Nat.le_of_ble_eq_true rfl
theorem mcb_X10_send : mClB mr_X10_send := Nat.le_of_ble_eq_true rfl
theorem mcb_X10_order : mClB mr_X10_order := Nat.le_of_ble_eq_true rfl
theorem mcb_X10_plain : mClB mr_X10_plain := Nat.le_of_ble_eq_true rfl
theorem mcb_X10_owed : mClB mr_X10_owed := Nat.le_of_ble_eq_true rfl
theorem mcb_X10_paid : mClB mr_X10_paid := Nat.le_of_ble_eq_true rfl
theorem mcb_X10_plan : mClB mr_X10_plan := Nat.le_of_ble_eq_true rfl
theorem mcb_X10_safe : mClB mr_X10_safe := Nat.le_of_ble_eq_true rfl
theorem mcb_X10_sheet : mClB mr_X10_sheet := Nat.le_of_ble_eq_true rfl
theorem mcb_X10_lay : mClB mr_X10_lay := Nat.le_of_ble_eq_true rfl
theorem mcb_X10_read : mClB mr_X10_read := Nat.le_of_ble_eq_true rfl
theorem mcb_X10_count : mClB mr_X10_count := Nat.le_of_ble_eq_true rfl
theorem mcb_X10_isWithin : mClB mr_X10_isWithin := Nat.le_of_ble_eq_true rfl
theorem mcb_X10_areTwoLands : mClB mr_X10_areTwoLands := Nat.le_of_ble_eq_true rfl
theorem mcb_X10_coinsOf : mClB mr_X10_coinsOf := Nat.le_of_ble_eq_true rfl
theorem mcb_X11_in : mClB mr_X11_in := Nat.le_of_ble_eq_true rfl
theorem mcb_X11_bits : mClB mr_X11_bits := Nat.le_of_ble_eq_true rfl
theorem mcb_X11_plain1 : mClB mr_X11_plain1 := Nat.le_of_ble_eq_true rfl
theorem mcb_X11_isLand : mClB mr_X11_isLand := Nat.le_of_ble_eq_true rfl
theorem mcb_X11_isLine : mClB mr_X11_isLine := Nat.le_of_ble_eq_true rfl
theorem mcb_X11_land : mClB mr_X11_land := Nat.le_of_ble_eq_true rfl
theorem mcb_X11_line : mClB mr_X11_line := Nat.le_of_ble_eq_true rfl
theorem mcb_X11_lengthOf : mClB mr_X11_lengthOf := Nat.le_of_ble_eq_true rfl
theorem mcb_X11_lightIn : mClB mr_X11_lightIn := Nat.le_of_ble_eq_true rfl
theorem mcb_X11_light : mClB mr_X11_light := Nat.le_of_ble_eq_true rfl
theorem mcb_X11_until : mClB mr_X11_until := Nat.le_of_ble_eq_true rfl
theorem mcb_X11_isOpen : mClB mr_X11_isOpen := Nat.le_of_ble_eq_true rfl
theorem mcb_X11_isCut : mClB mr_X11_isCut := Nat.le_of_ble_eq_true rfl
theorem mcb_X11_stateOf : mClB mr_X11_stateOf := Nat.le_of_ble_eq_true rfl
theorem mcb_X11_roomOf : mClB mr_X11_roomOf := Nat.le_of_ble_eq_true rfl
theorem mcb_X11_lineOf : mClB mr_X11_lineOf := Nat.le_of_ble_eq_true rfl
theorem mcb_X11_change : mClB mr_X11_change := Nat.le_of_ble_eq_true rfl
theorem mcb_X11_year : mClB mr_X11_year := Nat.le_of_ble_eq_true rfl
theorem mcb_X11_hour : mClB mr_X11_hour := Nat.le_of_ble_eq_true rfl
theorem mcb_X11_firstRules : mClB mr_X11_firstRules := Nat.le_of_ble_eq_true rfl
theorem mcb_X11_feed : mClB mr_X11_feed := Nat.le_of_ble_eq_true rfl
theorem mcb_X11_end : mClB mr_X11_end := Nat.le_of_ble_eq_true rfl
theorem mcb_X11_wants : mClB mr_X11_wants := Nat.le_of_ble_eq_true rfl
theorem mcb_X11_look : mClB mr_X11_look := Nat.le_of_ble_eq_true rfl
theorem mcb_X11_next : mClB mr_X11_next := Nat.le_of_ble_eq_true rfl
theorem mcb_X11_is : mClB mr_X11_is := Nat.le_of_ble_eq_true rfl
theorem mcb_X11_nameNow : mClB mr_X11_nameNow := Nat.le_of_ble_eq_true rfl
theorem mcb_X11_readNumber : mClB mr_X11_readNumber := Nat.le_of_ble_eq_true rfl
theorem mcb_X11_readName : mClB mr_X11_readName := Nat.le_of_ble_eq_true rfl
theorem mcb_X11_readRent : mClB mr_X11_readRent := Nat.le_of_ble_eq_true rfl
theorem mcb_X11_least : mClB mr_X11_least := Nat.le_of_ble_eq_true rfl
theorem mcb_X11_most : mClB mr_X11_most := Nat.le_of_ble_eq_true rfl
theorem mcb_X11_readLine : mClB mr_X11_readLine := Nat.le_of_ble_eq_true rfl
theorem mcb_X11_rules : mClB mr_X11_rules := Nat.le_of_ble_eq_true rfl
theorem mcb_X11_fault : mClB mr_X11_fault := Nat.le_of_ble_eq_true rfl
theorem mcb_X11_rule : mClB mr_X11_rule := Nat.le_of_ble_eq_true rfl
theorem mcb_X11_rent : mClB mr_X11_rent := Nat.le_of_ble_eq_true rfl
theorem mcb_X11_demand : mClB mr_X11_demand := Nat.le_of_ble_eq_true rfl
theorem mcb_X11_isDemand : mClB mr_X11_isDemand := Nat.le_of_ble_eq_true rfl
theorem mcb_X11_much : mClB mr_X11_much := Nat.le_of_ble_eq_true rfl
theorem mcb_X11_roomsNow : mClB mr_X11_roomsNow := Nat.le_of_ble_eq_true rfl
theorem mcb_X11_other : mClB mr_X11_other := Nat.le_of_ble_eq_true rfl
theorem mcb_X11_findWay : mClB mr_X11_findWay := Nat.le_of_ble_eq_true rfl
theorem mcb_X11_leads : mClB mr_X11_leads := Nat.le_of_ble_eq_true rfl
theorem mcb_X11_aheadOf : mClB mr_X11_aheadOf := Nat.le_of_ble_eq_true rfl
theorem mcb_X11_led : mClB mr_X11_led := Nat.le_of_ble_eq_true rfl
theorem mcb_X11_way : mClB mr_X11_way := Nat.le_of_ble_eq_true rfl
theorem mcb_X11_partsBy : mClB mr_X11_partsBy := Nat.le_of_ble_eq_true rfl
theorem mcb_X11_parts : mClB mr_X11_parts := Nat.le_of_ble_eq_true rfl
theorem mcb_X11_worst : mClB mr_X11_worst := Nat.le_of_ble_eq_true rfl
theorem mcb_X11_swingsOnce : mClB mr_X11_swingsOnce := Nat.le_of_ble_eq_true rfl
theorem mcb_X11_swing : mClB mr_X11_swing := Nat.le_of_ble_eq_true rfl
theorem mcb_X11_areAlike : mClB mr_X11_areAlike := Nat.le_of_ble_eq_true rfl
theorem mcb_X11_swings : mClB mr_X11_swings := Nat.le_of_ble_eq_true rfl
theorem mcb_X11_isBreak : mClB mr_X11_isBreak := Nat.le_of_ble_eq_true rfl
theorem mcb_X11_cut : mClB mr_X11_cut := Nat.le_of_ble_eq_true rfl
theorem mcb_X11_echo : mClB mr_X11_echo := Nat.le_of_ble_eq_true rfl
theorem mcb_X11_xAt : mClB mr_X11_xAt := Nat.le_of_ble_eq_true rfl
theorem mcb_X11_yAt : mClB mr_X11_yAt := Nat.le_of_ble_eq_true rfl
theorem mcb_X11_breakOf : mClB mr_X11_breakOf := Nat.le_of_ble_eq_true rfl
theorem mcb_X11_quake : mClB mr_X11_quake := Nat.le_of_ble_eq_true rfl
theorem mcb_X11_shared : mClB mr_X11_shared := Nat.le_of_ble_eq_true rfl
theorem mcb_X11_ship : mClB mr_X11_ship := Nat.le_of_ble_eq_true rfl
theorem mcb_X11_isShip : mClB mr_X11_isShip := Nat.le_of_ble_eq_true rfl
theorem mcb_X11_shipOf : mClB mr_X11_shipOf := Nat.le_of_ble_eq_true rfl
theorem mcb_X11_takesReel : mClB mr_X11_takesReel := Nat.le_of_ble_eq_true rfl
theorem mcb_X11_mayDo : mClB mr_X11_mayDo := Nat.le_of_ble_eq_true rfl
theorem mcb_X11_hoursTo : mClB mr_X11_hoursTo := Nat.le_of_ble_eq_true rfl
theorem mcb_X11_startOf : mClB mr_X11_startOf := Nat.le_of_ble_eq_true rfl
theorem mcb_X11_send : mClB mr_X11_send := Nat.le_of_ble_eq_true rfl
theorem mcb_X11_findListed : mClB mr_X11_findListed := Nat.le_of_ble_eq_true rfl
theorem mcb_X11_weightOf : mClB mr_X11_weightOf := Nat.le_of_ble_eq_true rfl
theorem mcb_X11_costBy : mClB mr_X11_costBy := Nat.le_of_ble_eq_true rfl
theorem mcb_X11_legOf : mClB mr_X11_legOf := Nat.le_of_ble_eq_true rfl
theorem mcb_X11_findOrder : mClB mr_X11_findOrder := Nat.le_of_ble_eq_true rfl
theorem mcb_X11_order : mClB mr_X11_order := Nat.le_of_ble_eq_true rfl
theorem mcb_X11_plain : mClB mr_X11_plain := Nat.le_of_ble_eq_true rfl
theorem mcb_X11_wasOpen : mClB mr_X11_wasOpen := Nat.le_of_ble_eq_true rfl
theorem mcb_X11_coins : mClB mr_X11_coins := Nat.le_of_ble_eq_true rfl
theorem mcb_X11_owed : mClB mr_X11_owed := Nat.le_of_ble_eq_true rfl
theorem mcb_X11_paid : mClB mr_X11_paid := Nat.le_of_ble_eq_true rfl
theorem mcb_X11_plan : mClB mr_X11_plan := Nat.le_of_ble_eq_true rfl
theorem mcb_X11_areJoined : mClB mr_X11_areJoined := Nat.le_of_ble_eq_true rfl
theorem mcb_X11_isSafe : mClB mr_X11_isSafe := Nat.le_of_ble_eq_true rfl
theorem mcb_X11_safe : mClB mr_X11_safe := Nat.le_of_ble_eq_true rfl
theorem mcb_X11_isSheet : mClB mr_X11_isSheet := Nat.le_of_ble_eq_true rfl
theorem mcb_X11_sheet : mClB mr_X11_sheet := Nat.le_of_ble_eq_true rfl
theorem mcb_X11_lay : mClB mr_X11_lay := Nat.le_of_ble_eq_true rfl
theorem mcb_X11_read : mClB mr_X11_read := Nat.le_of_ble_eq_true rfl
theorem mcb_X11_count : mClB mr_X11_count := Nat.le_of_ble_eq_true rfl
theorem mcb_J0_length_8abf5 : mClB mr_J0_length_8abf5 := Nat.le_of_ble_eq_true rfl
theorem mcb_J0_charAt_5068e : mClB mr_J0_charAt_5068e := Nat.le_of_ble_eq_true rfl
theorem mcb_J0_coder_7d493 : mClB mr_J0_coder_7d493 := Nat.le_of_ble_eq_true rfl
theorem mcb_J0_isLatin1_aae02 : mClB mr_J0_isLatin1_aae02 := Nat.le_of_ble_eq_true rfl
theorem mcb_J0_checkIndex_df160 : mClB mr_J0_checkIndex_df160 := Nat.le_of_ble_eq_true rfl
theorem mcb_J1_charAt_3b067 : mClB mr_J1_charAt_3b067 := Nat.le_of_ble_eq_true rfl
theorem mcb_J3_checkIndex_8e157 : mClB mr_J3_checkIndex_8e157 := Nat.le_of_ble_eq_true rfl
theorem mcb_J6_numberOfTrailingZeros_0f7a4 : mClB mr_J6_numberOfTrailingZeros_0f7a4 := Nat.le_of_ble_eq_true rfl
theorem mcb_J6_bitCount_0f7a4 : mClB mr_J6_bitCount_0f7a4 := Nat.le_of_ble_eq_true rfl
theorem mcb_J7_fill_53178 : mClB mr_J7_fill_53178 := Nat.le_of_ble_eq_true rfl
theorem mcb_L_law : mClB mr_L_law := Nat.le_of_ble_eq_true rfl
theorem mI_cl (μ : Nat) : mClB (mI μ) := (cP (cP (cP (cP (cP (cP (cP (cP mcb_X0_has mcb_X0_add _) (cP mcb_X0_narrow mcb_X0_isInHands _) _) (cP (cP mcb_X0_isOpen mcb_X0_openOnes _) (cP mcb_X0_isCut mcb_X0_stateOf _) _) _) (cP (cP (cP mcb_X0_litLines mcb_X0_roomOf _) (cP mcb_X0_farFrom mcb_X0_farFromRow _) _) (cP (cP mcb_X0_gap mcb_X0_couldShare _) (cP mcb_X0_downHours mcb_X0_nextDown _) _) _) _) (cP (cP (cP (cP mcb_X1_has mcb_X1_add _) (cP mcb_X1_hasLeave mcb_X1_reelFor _) _) (cP (cP mcb_X1_placeX mcb_X1_placeY _) (cP mcb_X1_hoursTo mcb_X1_mayMend _) _) _) (cP (cP (cP mcb_X1_beginsIn mcb_X1_takeInHands _) (cP mcb_X2_gather mcb_X2_jobBits _) _) (cP (cP mcb_X2_weigh mcb_X2_measure _) (cP mcb_X2_weightOf mcb_X2_costFrom _) _) _) _) _) (cP (cP (cP (cP (cP mcb_X2_costFor mcb_X2_findBest _) (cP mcb_X2_costOfParting mcb_X2_nextParting _) _) (cP (cP mcb_X2_bestShipOf mcb_X2_goPlainly _) (cP mcb_X2_firstFree mcb_X2_soonestFor _) _) _) (cP (cP (cP mcb_X2_doPlainly mcb_X2_plainLeft _) (cP mcb_X3_hasLand mcb_X3_hasLine _) _) (cP (cP mcb_X3_addLand mcb_X3_addLine _) (cP mcb_X3_lightIn mcb_X3_isBright _) _) _) _) (cP (cP (cP (cP mcb_X3_fullRoom mcb_X3_otherEnd _) (cP mcb_X3_stepsAlongX mcb_X3_placeX _) _) (cP (cP mcb_X3_placeY mcb_X4_takeBytes _) (cP mcb_X4_keepFirst mcb_X4_tell _) _) _) (cP (cP (cP mcb_X4_readLine mcb_X4_readRent _) (cP mcb_X4_readHouse mcb_X4_readWord _) _) (cP (cP mcb_X4_readStop mcb_X4_readNumber _) mcb_X4_fail _) _) _) _) _) (cP (cP (cP (cP (cP (cP mcb_X4_nextToken mcb_X4_nextNumber _) (cP mcb_X4_isWord mcb_X4_ruleNamed _) _) (cP (cP mcb_X4_nameOf mcb_X5_setAtFirst _) (cP mcb_X5_copyFrom mcb_X6_findBest _) _) _) (cP (cP (cP mcb_X6_isBetter mcb_X6_coinsOf _) (cP mcb_X6_isSafe mcb_X6_gatherTies _) _) (cP (cP mcb_X6_addTie mcb_X6_areJoinedWell _) (cP mcb_X6_spread mcb_X6_giveBack _) _) _) _) (cP (cP (cP (cP mcb_X7_has mcb_X7_isLane _) (cP mcb_X7_isNothing mcb_X7_hasCell _) _) (cP (cP mcb_X7_begin mcb_X7_put _) (cP mcb_X8_has mcb_X8_add _) _) _) (cP (cP (cP mcb_X9_keepRooms mcb_X9_goesBy _) (cP mcb_X9_ahead mcb_X9_lead _) _) (cP (cP mcb_X9_leadOne mcb_X9_stepOf _) mcb_X9_measureTo _) _) _) _) (cP (cP (cP (cP (cP mcb_X9_follow mcb_X9_leastStep _) (cP mcb_X9_heapsWithout mcb_X9_joinHeaps _) _) (cP (cP mcb_X9_swingUntilBack mcb_X9_sameTurn _) (cP mcb_X9_areLike mcb_X9_chooseAll _) _) _) (cP (cP (cP mcb_X9_chooseTo mcb_X9_greatestLoad _) (cP mcb_X9_overfull mcb_X10_land _) _) (cP (cP mcb_X10_line mcb_X10_lineOf _) (cP mcb_X10_light mcb_X10_until _) _) _) _) (cP (cP (cP (cP mcb_X10_change mcb_X10_year _) (cP mcb_X10_hour mcb_X10_feed _) _) (cP (cP mcb_X10_end mcb_X10_rules _) (cP mcb_X10_fault mcb_X10_rule _) _) _) (cP (cP (cP mcb_X10_rent mcb_X10_demand _) (cP mcb_X10_much mcb_X10_led _) _) (cP (cP mcb_X10_way mcb_X10_parts _) mcb_X10_worst _) _) _) _) _) _) (cP (cP (cP (cP (cP (cP (cP mcb_X10_swing mcb_X10_swings _) (cP mcb_X10_cut mcb_X10_echo _) _) (cP (cP mcb_X10_breakOf mcb_X10_quake _) (cP mcb_X10_shared mcb_X10_ship _) _) _) (cP (cP (cP mcb_X10_shipOf mcb_X10_send _) (cP mcb_X10_order mcb_X10_plain _) _) (cP (cP mcb_X10_owed mcb_X10_paid _) (cP mcb_X10_plan mcb_X10_safe _) _) _) _) (cP (cP (cP (cP mcb_X10_sheet mcb_X10_lay _) (cP mcb_X10_read mcb_X10_count _) _) (cP (cP mcb_X10_isWithin mcb_X10_areTwoLands _) (cP mcb_X10_coinsOf mcb_X11_in _) _) _) (cP (cP (cP mcb_X11_bits mcb_X11_plain1 _) (cP mcb_X11_isLand mcb_X11_isLine _) _) (cP (cP mcb_X11_land mcb_X11_line _) mcb_X11_lengthOf _) _) _) _) (cP (cP (cP (cP (cP mcb_X11_lightIn mcb_X11_light _) (cP mcb_X11_until mcb_X11_isOpen _) _) (cP (cP mcb_X11_isCut mcb_X11_stateOf _) (cP mcb_X11_roomOf mcb_X11_lineOf _) _) _) (cP (cP (cP mcb_X11_change mcb_X11_year _) (cP mcb_X11_hour mcb_X11_firstRules _) _) (cP (cP mcb_X11_feed mcb_X11_end _) (cP mcb_X11_wants mcb_X11_look _) _) _) _) (cP (cP (cP (cP mcb_X11_next mcb_X11_is _) (cP mcb_X11_nameNow mcb_X11_readNumber _) _) (cP (cP mcb_X11_readName mcb_X11_readRent _) (cP mcb_X11_least mcb_X11_most _) _) _) (cP (cP (cP mcb_X11_readLine mcb_X11_rules _) (cP mcb_X11_fault mcb_X11_rule _) _) (cP (cP mcb_X11_rent mcb_X11_demand _) mcb_X11_isDemand _) _) _) _) _) (cP (cP (cP (cP (cP (cP mcb_X11_much mcb_X11_roomsNow _) (cP mcb_X11_other mcb_X11_findWay _) _) (cP (cP mcb_X11_leads mcb_X11_aheadOf _) (cP mcb_X11_led mcb_X11_way _) _) _) (cP (cP (cP mcb_X11_partsBy mcb_X11_parts _) (cP mcb_X11_worst mcb_X11_swingsOnce _) _) (cP (cP mcb_X11_swing mcb_X11_areAlike _) (cP mcb_X11_swings mcb_X11_isBreak _) _) _) _) (cP (cP (cP (cP mcb_X11_cut mcb_X11_echo _) (cP mcb_X11_xAt mcb_X11_yAt _) _) (cP (cP mcb_X11_breakOf mcb_X11_quake _) (cP mcb_X11_shared mcb_X11_ship _) _) _) (cP (cP (cP mcb_X11_isShip mcb_X11_shipOf _) (cP mcb_X11_takesReel mcb_X11_mayDo _) _) (cP (cP mcb_X11_hoursTo mcb_X11_startOf _) mcb_X11_send _) _) _) _) (cP (cP (cP (cP (cP mcb_X11_findListed mcb_X11_weightOf _) (cP mcb_X11_costBy mcb_X11_legOf _) _) (cP (cP mcb_X11_findOrder mcb_X11_order _) (cP mcb_X11_plain mcb_X11_wasOpen _) _) _) (cP (cP (cP mcb_X11_coins mcb_X11_owed _) (cP mcb_X11_paid mcb_X11_plan _) _) (cP (cP mcb_X11_areJoined mcb_X11_isSafe _) (cP mcb_X11_safe mcb_X11_isSheet _) _) _) _) (cP (cP (cP (cP mcb_X11_sheet mcb_X11_lay _) (cP mcb_X11_read mcb_X11_count _) _) (cP (cP mcb_J0_length_8abf5 mcb_J0_charAt_5068e _) (cP mcb_J0_coder_7d493 mcb_J0_isLatin1_aae02 _) _) _) (cP (cP (cP mcb_J0_checkIndex_df160 mcb_J1_charAt_3b067 _) (cP mcb_J3_checkIndex_8e157 mcb_J6_numberOfTrailingZeros_0f7a4 _) _) (cP (cP mcb_J6_bitCount_0f7a4 mcb_J7_fill_53178 _) mcb_L_law _) _) _) _) _) _) _)
